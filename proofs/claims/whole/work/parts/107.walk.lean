def F_M_goesBy_J34_4 (s0_2 : Int32) (x0 : Int32) (x1 : Int32) (x2 : Int32) (s0_4 : Int32) : Option (Int32) :=
  (if x0 = 0 then (if x2 = (x1 - x1 / (6 : Int32) * (6 : Int32)) then (some 0) else (some 1)) else (if x0 = 1 then (ckz s0_2 (some s0_2)) else (if x0 = 2 then (ckz s0_4 (some s0_4)) else (if x0 = 3 then (if s0_4 = 0 then (if x2 = (x1 - x1 / (6 : Int32) * (6 : Int32)) then (some 1) else (some 0)) else (some 1)) else (if x0 = 4 then (if s0_2 = 0 then (some 0) else (if x2 = 1 then (some 0) else (some 1))) else (some 1))))))
def F_M_goesBy_J29_17 (s0_2 : Int32) (x0 : Int32) (x1 : Int32) (x2 : Int32) : Option (Int32) :=
  (F_M_goesBy_J34_4 s0_2 x0 x1 x2 1)
def F_M_goesBy_J13_2 (x0 : Int32) (x1 : Int32) (x2 : Int32) (s0_2 : Int32) : Option (Int32) :=
  (if x2 = 1 then (F_M_goesBy_J29_17 s0_2 x0 x1 x2) else (if x2 = 2 then (F_M_goesBy_J29_17 s0_2 x0 x1 x2) else (if x2 = 5 then (F_M_goesBy_J29_17 s0_2 x0 x1 x2) else (F_M_goesBy_J34_4 s0_2 x0 x1 x2 0))))
def F_M_goesBy (x0 : Int32) (x1 : Int32) (x2 : Int32) : Option (Int32) :=
  (if ((x2 + x1) - (x2 + x1) / (2 : Int32) * (2 : Int32)) = 0 then (F_M_goesBy_J13_2 x0 x1 x2 1) else (F_M_goesBy_J13_2 x0 x1 x2 0))
set_option maxHeartbeats 4000000 in
set_option maxRecDepth 100000 in
theorem C_M_goesBy (l : Launch) (D : va_G) (cI cS : ClassId) (x0 : Int32) (x1 : Int32) (x2 : Int32) (o : Int32) (hr : F_M_goesBy x0 x1 x2 = some o) : ctI l y_M_goesBy (Cond.code y_M_goesBy b_M_goesBy 5 (some FieldType.boolean)) (rmd 0) D (kTy cI cS) [.int x0, .int x1, .int x2] [] [] o := by
  unfold F_M_goesBy at hr
  refine ⟨rfl, fun sz => ct_of (w0 := []) (Qc := fun A => qI D [] o A) rfl (Nat.le_of_ble_eq_true rfl) ?_ sz⟩
  intro p e s m below meth c A hA C hret ls hl hW
  have C : cx p s m ([.int x0, .int x1, .int x2] : List Value).toArray meth c b_M_goesBy 5 R_M D (kTy cI cS) (Cond.code y_M_goesBy b_M_goesBy 5 (some FieldType.boolean)) := C
  obtain ⟨hx, hb, hml, hown, hts, hK, hlk, hN⟩ := id C
  have hl : lv_has ls 5 [(0, .int x0), (1, .int x1), (2, .int x2)] := hl
  obtain ⟨Q, hQ⟩ : ∃ Q, Q = MQ below (qI D [] o A) ([.int x0, .int x1, .int x2] : List Value).toArray s 0 0 A := ⟨_, rfl⟩
  rw [← hQ]
  refine lv_iload_n hx hb d_M_goesBy_0 rfl (lv_at hl 2 rfl) ?_
  refine lv_iload_n hx hb d_M_goesBy_1 rfl (lv_at hl 1 rfl) ?_
  refine lv_iadd hx hb d_M_goesBy_2 ?_
  refine lv_iconst (v := 2) hx hb d_M_goesBy_3 (by decide) ?_
  refine lv_irem hx hb d_M_goesBy_4 (by decide) ?_
  have hJ_2 : ∀ (s0_2 : Int32), F_M_goesBy_J13_2 x0 x1 x2 s0_2 = some o → ∀ (H : Heap) (locs : List Loc) (ls : Array Slot), wd A s.heap D [] H locs → lv_has ls 5 [(0, .int x0), (1, .int x1), (2, .int x2)] → W p l e (rmd 0) s m ([.int x0, .int x1, .int x2] : List Value).toArray below meth c H locs 0 0 Q (F0 m 13 ls [.int s0_2]) := by
    intro s0_2 hr H locs ls hW hl
    unfold F_M_goesBy_J13_2 at hr
    refine lv_istore_n (lv' := [(3, .int s0_2), (0, .int x0), (1, .int x1), (2, .int x2)]) hx hb d_M_goesBy_13 rfl hl (by decide) rfl (fun ls hl => ?_)
    refine lv_iload_n hx hb d_M_goesBy_14 rfl (lv_at hl 3 rfl) ?_
    refine lv_iconst (v := 1) hx hb d_M_goesBy_15 (by decide) ?_
    have hJ_4 : ∀ (s0_4 : Int32), F_M_goesBy_J34_4 s0_2 x0 x1 x2 s0_4 = some o → ∀ (H : Heap) (locs : List Loc) (ls : Array Slot), wd A s.heap D [] H locs → lv_has ls 5 [(0, .int x0), (1, .int x1), (2, .int x2), (3, .int s0_2)] → W p l e (rmd 0) s m ([.int x0, .int x1, .int x2] : List Value).toArray below meth c H locs 0 0 Q (F0 m 34 ls [.int s0_4]) := by
      intro s0_4 hr H locs ls hW hl
      unfold F_M_goesBy_J34_4 at hr
      refine lv_istore (lv' := [(4, .int s0_4), (0, .int x0), (1, .int x1), (2, .int x2), (3, .int s0_2)]) hx hb d_M_goesBy_34 hl (by decide) rfl (fun ls hl => ?_)
      refine lv_iload_n hx hb d_M_goesBy_36 rfl (lv_at hl 1 rfl) ?_
      by_cases c_5 : x0 = 0
      · replace hr := ip c_5 hr
        refine k_tabIn (tgt := 72) (off := 35) c_5 hx hb d_M_goesBy_37 (by decide) (by decide) (by decide) (by decide) ?_
        refine lv_iload_n hx hb d_M_goesBy_72 rfl (lv_at hl 3 rfl) ?_
        refine lv_iload_n hx hb d_M_goesBy_73 rfl (lv_at hl 2 rfl) ?_
        refine lv_bipush (v := 6) hx hb d_M_goesBy_74 (by decide) ?_
        refine lv_irem hx hb d_M_goesBy_76 (by decide) ?_
        refine lv_icmp_eq (tgt := 84) hx hb d_M_goesBy_77 (by decide) (fun c_6 => ?_) (fun c_6 => ?_)
        · replace hr := ip c_6 hr
          refine lv_iconst (v := 0) hx hb d_M_goesBy_84 (by decide) ?_
          obtain rfl := Option.some.inj hr
          rw [hQ]; exact k_zret C hret nar0 hW d_M_goesBy_85
        · replace hr := iN c_6 hr
          refine lv_iconst (v := 1) hx hb d_M_goesBy_80 (by decide) ?_
          refine lv_goto (tgt := 85) hx hb d_M_goesBy_81 (by decide) ?_
          obtain rfl := Option.some.inj hr
          rw [hQ]; exact k_zret C hret nar1 hW d_M_goesBy_85
      · replace hr := iN c_5 hr
        by_cases c_7 : x0 = 1
        · replace hr := ip c_7 hr
          refine k_tabIn (tgt := 86) (off := 49) c_7 hx hb d_M_goesBy_37 (by decide) (by decide) (by decide) (by decide) ?_
          refine lv_iload_n hx hb d_M_goesBy_86 rfl (lv_at hl 4 rfl) ?_
          obtain ⟨hz_8, -, hr⟩ := ckz_some hr
          obtain rfl := Option.some.inj hr
          rw [hQ]; exact k_zret C hret hz_8 hW d_M_goesBy_87
        · replace hr := iN c_7 hr
          by_cases c_9 : x0 = 2
          · replace hr := ip c_9 hr
            refine k_tabIn (tgt := 88) (off := 51) c_9 hx hb d_M_goesBy_37 (by decide) (by decide) (by decide) (by decide) ?_
            refine lv_iload hx hb d_M_goesBy_88 (lv_at hl 0 rfl) ?_
            obtain ⟨hz_10, -, hr⟩ := ckz_some hr
            obtain rfl := Option.some.inj hr
            rw [hQ]; exact k_zret C hret hz_10 hW d_M_goesBy_90
          · replace hr := iN c_9 hr
            by_cases c_11 : x0 = 3
            · replace hr := ip c_11 hr
              refine k_tabIn (tgt := 91) (off := 54) c_11 hx hb d_M_goesBy_37 (by decide) (by decide) (by decide) (by decide) ?_
              refine lv_iload hx hb d_M_goesBy_91 (lv_at hl 0 rfl) ?_
              refine lv_if_ne (tgt := 104) hx hb d_M_goesBy_93 (by decide) (fun c_12 => ?_) (fun c_12 => ?_)
              · replace hr := iN c_12 hr
                refine lv_iconst (v := 1) hx hb d_M_goesBy_104 (by decide) ?_
                refine lv_goto (tgt := 109) hx hb d_M_goesBy_105 (by decide) ?_
                obtain rfl := Option.some.inj hr
                rw [hQ]; exact k_zret C hret nar1 hW d_M_goesBy_109
              · replace hr := ip c_12 hr
                refine lv_iload_n hx hb d_M_goesBy_96 rfl (lv_at hl 3 rfl) ?_
                refine lv_iload_n hx hb d_M_goesBy_97 rfl (lv_at hl 2 rfl) ?_
                refine lv_bipush (v := 6) hx hb d_M_goesBy_98 (by decide) ?_
                refine lv_irem hx hb d_M_goesBy_100 (by decide) ?_
                refine lv_icmp_ne (tgt := 108) hx hb d_M_goesBy_101 (by decide) (fun c_13 => ?_) (fun c_13 => ?_)
                · replace hr := iN c_13 hr
                  refine lv_iconst (v := 0) hx hb d_M_goesBy_108 (by decide) ?_
                  obtain rfl := Option.some.inj hr
                  rw [hQ]; exact k_zret C hret nar0 hW d_M_goesBy_109
                · replace hr := ip c_13 hr
                  refine lv_iconst (v := 1) hx hb d_M_goesBy_104 (by decide) ?_
                  refine lv_goto (tgt := 109) hx hb d_M_goesBy_105 (by decide) ?_
                  obtain rfl := Option.some.inj hr
                  rw [hQ]; exact k_zret C hret nar1 hW d_M_goesBy_109
            · replace hr := iN c_11 hr
              by_cases c_14 : x0 = 4
              · replace hr := ip c_14 hr
                refine k_tabIn (tgt := 110) (off := 73) c_14 hx hb d_M_goesBy_37 (by decide) (by decide) (by decide) (by decide) ?_
                refine lv_iload_n hx hb d_M_goesBy_110 rfl (lv_at hl 4 rfl) ?_
                refine lv_if_eq (tgt := 123) hx hb d_M_goesBy_111 (by decide) (fun c_15 => ?_) (fun c_15 => ?_)
                · replace hr := ip c_15 hr
                  refine lv_iconst (v := 0) hx hb d_M_goesBy_123 (by decide) ?_
                  obtain rfl := Option.some.inj hr
                  rw [hQ]; exact k_zret C hret nar0 hW d_M_goesBy_124
                · replace hr := iN c_15 hr
                  refine lv_iload_n hx hb d_M_goesBy_114 rfl (lv_at hl 3 rfl) ?_
                  refine lv_iconst (v := 1) hx hb d_M_goesBy_115 (by decide) ?_
                  refine lv_icmp_eq (tgt := 123) hx hb d_M_goesBy_116 (by decide) (fun c_16 => ?_) (fun c_16 => ?_)
                  · replace hr := ip c_16 hr
                    refine lv_iconst (v := 0) hx hb d_M_goesBy_123 (by decide) ?_
                    obtain rfl := Option.some.inj hr
                    rw [hQ]; exact k_zret C hret nar0 hW d_M_goesBy_124
                  · replace hr := iN c_16 hr
                    refine lv_iconst (v := 1) hx hb d_M_goesBy_119 (by decide) ?_
                    refine lv_goto (tgt := 124) hx hb d_M_goesBy_120 (by decide) ?_
                    obtain rfl := Option.some.inj hr
                    rw [hQ]; exact k_zret C hret nar1 hW d_M_goesBy_124
              · replace hr := iN c_14 hr
                refine k_tabDef (tgt := 125) [0, 1, 2, 3, 4] (by decide +kernel) (by simp only [List.forall_mem_cons]; exact ⟨c_5, c_7, c_9, c_11, c_14, fun _ h => absurd h List.not_mem_nil⟩) hx hb d_M_goesBy_37 (by decide) ?_
                refine lv_iconst (v := 1) hx hb d_M_goesBy_125 (by decide) ?_
                obtain rfl := Option.some.inj hr
                rw [hQ]; exact k_zret C hret nar1 hW d_M_goesBy_126
    have hJ_17 : ∀ (_ : Unit), F_M_goesBy_J29_17 s0_2 x0 x1 x2 = some o → ∀ (H : Heap) (locs : List Loc) (ls : Array Slot), wd A s.heap D [] H locs → lv_has ls 5 [(0, .int x0), (1, .int x1), (2, .int x2), (3, .int s0_2)] → W p l e (rmd 0) s m ([.int x0, .int x1, .int x2] : List Value).toArray below meth c H locs 0 0 Q (F0 m 29 ls []) := by
      intro _ hr H locs ls hW hl
      unfold F_M_goesBy_J29_17 at hr
      refine lv_iconst (v := 1) hx hb d_M_goesBy_29 (by decide) ?_
      refine lv_goto (tgt := 34) hx hb d_M_goesBy_30 (by decide) ?_
      exact hJ_4 1 hr _ _ _ hW (lv_sub hl [0, 1, 2, 3] rfl)
    refine lv_icmp_eq (tgt := 29) hx hb d_M_goesBy_16 (by decide) (fun c_3 => ?_) (fun c_3 => ?_)
    · replace hr := ip c_3 hr
      exact hJ_17 () hr _ _ _ hW (lv_sub hl [1, 2, 3, 0] rfl)
    · replace hr := iN c_3 hr
      refine lv_iload_n hx hb d_M_goesBy_19 rfl (lv_at hl 3 rfl) ?_
      refine lv_iconst (v := 2) hx hb d_M_goesBy_20 (by decide) ?_
      refine lv_icmp_eq (tgt := 29) hx hb d_M_goesBy_21 (by decide) (fun c_18 => ?_) (fun c_18 => ?_)
      · replace hr := ip c_18 hr
        exact hJ_17 () hr _ _ _ hW (lv_sub hl [1, 2, 3, 0] rfl)
      · replace hr := iN c_18 hr
        refine lv_iload_n hx hb d_M_goesBy_24 rfl (lv_at hl 3 rfl) ?_
        refine lv_iconst (v := 5) hx hb d_M_goesBy_25 (by decide) ?_
        refine lv_icmp_ne (tgt := 33) hx hb d_M_goesBy_26 (by decide) (fun c_19 => ?_) (fun c_19 => ?_)
        · replace hr := iN c_19 hr
          refine lv_iconst (v := 0) hx hb d_M_goesBy_33 (by decide) ?_
          exact hJ_4 0 hr _ _ _ hW (lv_sub hl [1, 2, 3, 0] rfl)
        · replace hr := ip c_19 hr
          exact hJ_17 () hr _ _ _ hW (lv_sub hl [1, 2, 3, 0] rfl)
  refine lv_if_ne (tgt := 12) hx hb d_M_goesBy_5 (by decide) (fun c_1 => ?_) (fun c_1 => ?_)
  · replace hr := iN c_1 hr
    refine lv_iconst (v := 0) hx hb d_M_goesBy_12 (by decide) ?_
    exact hJ_2 0 hr _ _ _ hW (lv_sub hl [0, 1, 2] rfl)
  · replace hr := ip c_1 hr
    refine lv_iconst (v := 1) hx hb d_M_goesBy_8 (by decide) ?_
    refine lv_goto (tgt := 13) hx hb d_M_goesBy_9 (by decide) ?_
    exact hJ_2 1 hr _ _ _ hW (lv_sub hl [0, 1, 2] rfl)
def w_M_goesWith (cI : ClassId) (a_r0 : Nat) (a_r0_figures : Nat) (a_r0_kinds : Nat) (v_r0_weights v_r0_things v_r0_days v_r0_hampers v_r0_wants0 v_r0_left0 v_r0_done0 v_r0_thrown v_r0_refusals v_r0_letters v_r0_letterMany v_r0_at v_r0_isBad v_r0_statements v_r0_placeIn v_r0_letterOf v_r0_told v_r0_kept v_r0_imaged v_r0_hasImage v_r0_place0 v_r0_isTaking v_r0_keptIn v_r0_turns0 v_r0_turnOf v_r0_turned v_r0_order0 v_r0_likely0 v_r0_leftThen v_r0_row v_r0_rowMany v_r0_seed : Value) (r0_figures : Nat → Int32) (r0_kinds : Nat → Int32) : va_W := [(a_r0, .inr (9, [v_r0_weights, v_r0_things, .ref a_r0_kinds, .ref a_r0_figures, v_r0_days, v_r0_hampers, v_r0_wants0, v_r0_left0, v_r0_done0, v_r0_thrown, v_r0_refusals, v_r0_letters, v_r0_letterMany, v_r0_at, v_r0_isBad, v_r0_statements, v_r0_placeIn, v_r0_letterOf, v_r0_told, v_r0_kept, v_r0_imaged, v_r0_hasImage, v_r0_place0, v_r0_isTaking, v_r0_keptIn, v_r0_turns0, v_r0_turnOf, v_r0_turned, v_r0_order0, v_r0_likely0, v_r0_leftThen, v_r0_row, v_r0_rowMany, v_r0_seed])), (a_r0_figures, .inl (cI, 8, .inl r0_figures)), (a_r0_kinds, .inl (cI, 8, .inl r0_kinds))]
def F_M_goesWith_L4 (r0_figures : Nat → Int32) (r0_kinds : Nat → Int32) (x1 : Int32) (y2_1 : Int32) (y3_1 : Int32) : Option (((Int32) × (Int32)) ⊕ ((Int32))) :=
  (if (6 : Int32) ≤ y3_1 then (some (.inr y2_1)) else (ck x1 8 (ck x1 8 ((F_M_goesBy (r0_kinds (Int32.toNatClampNeg x1)) (r0_figures (Int32.toNatClampNeg x1)) y3_1).bind (fun q_5 => (if q_5 = 0 then (some (.inl ((y2_1 ||| 0), (y3_1 + 1)))) else (some (.inl ((y2_1 ||| ((1 : Int32) <<< ((y3_1 : Int32) &&& 31))), (y3_1 + 1))))))))))
def F_M_goesWith (r0_figures : Nat → Int32) (r0_kinds : Nat → Int32) (x1 : Int32) : Option (Int32) :=
  ((wh (fun (s : (Int32) × (Int32)) => F_M_goesWith_L4 r0_figures r0_kinds x1 s.1 s.2) 400 ((0 : Int32), (0 : Int32))).bind (fun e_1 => (some e_1)))
set_option maxHeartbeats 4000000 in
set_option maxRecDepth 100000 in
theorem C_M_goesWith (l : Launch) (D : va_G) (cI cS : ClassId) (a_r0 : Nat) (a_r0_figures : Nat) (a_r0_kinds : Nat) (v_r0_weights v_r0_things v_r0_days v_r0_hampers v_r0_wants0 v_r0_left0 v_r0_done0 v_r0_thrown v_r0_refusals v_r0_letters v_r0_letterMany v_r0_at v_r0_isBad v_r0_statements v_r0_placeIn v_r0_letterOf v_r0_told v_r0_kept v_r0_imaged v_r0_hasImage v_r0_place0 v_r0_isTaking v_r0_keptIn v_r0_turns0 v_r0_turnOf v_r0_turned v_r0_order0 v_r0_likely0 v_r0_leftThen v_r0_row v_r0_rowMany v_r0_seed : Value) (r0_figures : Nat → Int32) (r0_kinds : Nat → Int32) (x1 : Int32) (o : Int32) (hr : F_M_goesWith r0_figures r0_kinds x1 = some o) : ctI l y_M_goesWith (Cond.code y_M_goesWith b_M_goesWith 4 (some FieldType.int)) (rmd 1) D (kTy cI cS) [.ref a_r0, .int x1] (w_M_goesWith cI a_r0 a_r0_figures a_r0_kinds v_r0_weights v_r0_things v_r0_days v_r0_hampers v_r0_wants0 v_r0_left0 v_r0_done0 v_r0_thrown v_r0_refusals v_r0_letters v_r0_letterMany v_r0_at v_r0_isBad v_r0_statements v_r0_placeIn v_r0_letterOf v_r0_told v_r0_kept v_r0_imaged v_r0_hasImage v_r0_place0 v_r0_isTaking v_r0_keptIn v_r0_turns0 v_r0_turnOf v_r0_turned v_r0_order0 v_r0_likely0 v_r0_leftThen v_r0_row v_r0_rowMany v_r0_seed r0_figures r0_kinds) (w_M_goesWith cI a_r0 a_r0_figures a_r0_kinds v_r0_weights v_r0_things v_r0_days v_r0_hampers v_r0_wants0 v_r0_left0 v_r0_done0 v_r0_thrown v_r0_refusals v_r0_letters v_r0_letterMany v_r0_at v_r0_isBad v_r0_statements v_r0_placeIn v_r0_letterOf v_r0_told v_r0_kept v_r0_imaged v_r0_hasImage v_r0_place0 v_r0_isTaking v_r0_keptIn v_r0_turns0 v_r0_turnOf v_r0_turned v_r0_order0 v_r0_likely0 v_r0_leftThen v_r0_row v_r0_rowMany v_r0_seed r0_figures r0_kinds) o := by
  unfold F_M_goesWith at hr
  refine ⟨rfl, fun sz => ct_of (w0 := (w_M_goesWith cI a_r0 a_r0_figures a_r0_kinds v_r0_weights v_r0_things v_r0_days v_r0_hampers v_r0_wants0 v_r0_left0 v_r0_done0 v_r0_thrown v_r0_refusals v_r0_letters v_r0_letterMany v_r0_at v_r0_isBad v_r0_statements v_r0_placeIn v_r0_letterOf v_r0_told v_r0_kept v_r0_imaged v_r0_hasImage v_r0_place0 v_r0_isTaking v_r0_keptIn v_r0_turns0 v_r0_turnOf v_r0_turned v_r0_order0 v_r0_likely0 v_r0_leftThen v_r0_row v_r0_rowMany v_r0_seed r0_figures r0_kinds)) (Qc := fun A => qI D (w_M_goesWith cI a_r0 a_r0_figures a_r0_kinds v_r0_weights v_r0_things v_r0_days v_r0_hampers v_r0_wants0 v_r0_left0 v_r0_done0 v_r0_thrown v_r0_refusals v_r0_letters v_r0_letterMany v_r0_at v_r0_isBad v_r0_statements v_r0_placeIn v_r0_letterOf v_r0_told v_r0_kept v_r0_imaged v_r0_hasImage v_r0_place0 v_r0_isTaking v_r0_keptIn v_r0_turns0 v_r0_turnOf v_r0_turned v_r0_order0 v_r0_likely0 v_r0_leftThen v_r0_row v_r0_rowMany v_r0_seed r0_figures r0_kinds) o A) rfl (Nat.le_of_ble_eq_true rfl) ?_ sz⟩
  intro p e s m below meth c A hA C hret ls hl hW
  have C : cx p s m ([.ref a_r0, .int x1] : List Value).toArray meth c b_M_goesWith 4 R_M D (kTy cI cS) (Cond.code y_M_goesWith b_M_goesWith 4 (some FieldType.int)) := C
  obtain ⟨hx, hb, hml, hown, hts, hK, hlk, hN⟩ := id C
  have hl : lv_has ls 4 [(0, .ref a_r0), (1, .int x1)] := hl
  obtain ⟨Q, hQ⟩ : ∃ Q, Q = MQ below (qI D (w_M_goesWith cI a_r0 a_r0_figures a_r0_kinds v_r0_weights v_r0_things v_r0_days v_r0_hampers v_r0_wants0 v_r0_left0 v_r0_done0 v_r0_thrown v_r0_refusals v_r0_letters v_r0_letterMany v_r0_at v_r0_isBad v_r0_statements v_r0_placeIn v_r0_letterOf v_r0_told v_r0_kept v_r0_imaged v_r0_hasImage v_r0_place0 v_r0_isTaking v_r0_keptIn v_r0_turns0 v_r0_turnOf v_r0_turned v_r0_order0 v_r0_likely0 v_r0_leftThen v_r0_row v_r0_rowMany v_r0_seed r0_figures r0_kinds) o A) ([.ref a_r0, .int x1] : List Value).toArray s 0 0 A := ⟨_, rfl⟩
  rw [← hQ]
  refine lv_iconst (v := 0) hx hb d_M_goesWith_0 (by decide) ?_
  refine lv_istore_n (lv' := [(2, .int 0), (0, .ref a_r0), (1, .int x1)]) hx hb d_M_goesWith_1 rfl hl (by decide) rfl (fun ls hl => ?_)
  refine lv_iconst (v := 0) hx hb d_M_goesWith_2 (by decide) ?_
  refine lv_istore_n (lv' := [(3, .int 0), (2, .int 0), (0, .ref a_r0), (1, .int x1)]) hx hb d_M_goesWith_3 rfl hl (by decide) rfl (fun ls hl => ?_)
  obtain ⟨ex_1, hw_1, hk_1⟩ := ob hr
  have hx_1 : ∀ (e_1 : (Int32)), e_1 = ex_1 → ∀ (H : Heap) (locs : List Loc) (ls : Array Slot), wd A s.heap D (w_M_goesWith cI a_r0 a_r0_figures a_r0_kinds v_r0_weights v_r0_things v_r0_days v_r0_hampers v_r0_wants0 v_r0_left0 v_r0_done0 v_r0_thrown v_r0_refusals v_r0_letters v_r0_letterMany v_r0_at v_r0_isBad v_r0_statements v_r0_placeIn v_r0_letterOf v_r0_told v_r0_kept v_r0_imaged v_r0_hasImage v_r0_place0 v_r0_isTaking v_r0_keptIn v_r0_turns0 v_r0_turnOf v_r0_turned v_r0_order0 v_r0_likely0 v_r0_leftThen v_r0_row v_r0_rowMany v_r0_seed r0_figures r0_kinds) H locs → lv_has ls 4 [(2, .int e_1)] → W p l e (rmd 1) s m ([.ref a_r0, .int x1] : List Value).toArray below meth c H locs 0 0 Q (F0 m 45 ls []) := by
    intro e_1 hE H locs ls hW hl
    subst hE; have hr := hk_1
    refine lv_iload_n hx hb d_M_goesWith_45 rfl (lv_at hl 0 rfl) ?_
    obtain rfl := Option.some.inj hr
    rw [hQ]; exact k_iret C hret hW d_M_goesWith_46
  have hl_1 : ∀ (k : Nat) (y2_1 : Int32) (y3_1 : Int32), wh (fun (s : (Int32) × (Int32)) => F_M_goesWith_L4 r0_figures r0_kinds x1 s.1 s.2) k (y2_1, y3_1) = some ex_1 → ∀ (H : Heap) (locs : List Loc) (ls : Array Slot), wd A s.heap D (w_M_goesWith cI a_r0 a_r0_figures a_r0_kinds v_r0_weights v_r0_things v_r0_days v_r0_hampers v_r0_wants0 v_r0_left0 v_r0_done0 v_r0_thrown v_r0_refusals v_r0_letters v_r0_letterMany v_r0_at v_r0_isBad v_r0_statements v_r0_placeIn v_r0_letterOf v_r0_told v_r0_kept v_r0_imaged v_r0_hasImage v_r0_place0 v_r0_isTaking v_r0_keptIn v_r0_turns0 v_r0_turnOf v_r0_turned v_r0_order0 v_r0_likely0 v_r0_leftThen v_r0_row v_r0_rowMany v_r0_seed r0_figures r0_kinds) H locs → lv_has ls 4 [(0, .ref a_r0), (1, .int x1), (2, .int y2_1), (3, .int y3_1)] → W p l e (rmd 1) s m ([.ref a_r0, .int x1] : List Value).toArray below meth c H locs 0 0 Q (F0 m 4 ls []) := by
    intro k
    induction k with
    | zero => intro y2_1 y3_1 hw; exact absurd hw wh_0
    | succ k ih_1 =>
      intro y2_1 y3_1 hw H locs ls hW hl
      obtain ⟨z_1, hr, hz1_1, hz2_1⟩ := wh_s hw
      have hr : F_M_goesWith_L4 r0_figures r0_kinds x1 y2_1 y3_1 = some z_1 := hr
      unfold F_M_goesWith_L4 at hr
      refine lv_iload_n hx hb d_M_goesWith_4 rfl (lv_at hl 3 rfl) ?_
      refine lv_bipush (v := 6) hx hb d_M_goesWith_5 (by decide) ?_
      refine lv_icmp_ge (tgt := 45) hx hb d_M_goesWith_7 (by decide) (fun c_2 => ?_) (fun c_2 => ?_)
      · replace hr := ip c_2 hr
        exact hx_1 _ (hz2_1 _ (Option.some.inj hr).symm) _ _ _ hW (lv_sub hl [2] rfl)
      · replace hr := iN c_2 hr
        refine lv_iload_n hx hb d_M_goesWith_10 rfl (lv_at hl 2 rfl) ?_
        refine lv_aload_n hx hb d_M_goesWith_11 rfl (lv_at hl 0 rfl) ?_
        refine k_get i_M C hW 0 rfl rfl 2 (by decide) qf_M_13 rfl rfl d_M_goesWith_12 ?_
        refine lv_iload_n hx hb d_M_goesWith_15 rfl (lv_at hl 1 rfl) ?_
        obtain ⟨h_3, hr⟩ := ck_some hr
        refine k_iald C hW 2 rfl h_3 d_M_goesWith_16 ?_
        refine lv_aload_n hx hb d_M_goesWith_17 rfl (lv_at hl 0 rfl) ?_
        refine k_get i_M C hW 0 rfl rfl 3 (by decide) qf_M_16 rfl rfl d_M_goesWith_18 ?_
        refine lv_iload_n hx hb d_M_goesWith_21 rfl (lv_at hl 1 rfl) ?_
        obtain ⟨h_4, hr⟩ := ck_some hr
        refine k_iald C hW 1 rfl h_4 d_M_goesWith_22 ?_
        refine lv_iload_n hx hb d_M_goesWith_23 rfl (lv_at hl 3 rfl) ?_
        obtain ⟨q_5, hc_5, hr⟩ := ob hr
        have ct_5 := C_M_goesBy l D cI cS (r0_kinds (Int32.toNatClampNeg x1)) (r0_figures (Int32.toNatClampNeg x1)) y3_1 q_5 hc_5
        refine k_goIp hA hW [] rfl rfl (k_runS C hA hW mw_M_goesBy ms_M_goesBy (ct_5.2 _) [] rfl rfl qm_M_81 ⟨Nat.le_of_ble_eq_true rfl, Nat.le_of_ble_eq_true rfl, Nat.zero_le _, Nat.zero_le _⟩ rfl rfl (Nat.le_of_ble_eq_true rfl) hl.1 d_M_goesWith_24) (fun H locs hW => ?_)
        refine lv_if_eq (tgt := 36) hx hb d_M_goesWith_27 (by decide) (fun c_6 => ?_) (fun c_6 => ?_)
        · replace hr := ip c_6 hr
          refine lv_iconst (v := 0) hx hb d_M_goesWith_36 (by decide) ?_
          refine lv_ior hx hb d_M_goesWith_37 ?_
          refine lv_istore_n (lv' := [(2, .int (y2_1 ||| 0)), (0, .ref a_r0), (1, .int x1), (3, .int y3_1)]) hx hb d_M_goesWith_38 rfl hl (by decide) rfl (fun ls hl => ?_)
          refine lv_iinc (v := (y3_1 + 1)) (lv' := [(3, .int (y3_1 + 1)), (2, .int (y2_1 ||| 0)), (0, .ref a_r0), (1, .int x1)]) hx hb d_M_goesWith_39 hl (k := 3) rfl rfl (by decide) rfl (fun ls hl => ?_)
          refine lv_goto (tgt := 4) hx hb d_M_goesWith_42 (by decide) ?_
          exact ih_1 (y2_1 ||| 0) (y3_1 + 1) (hz1_1 _ (Option.some.inj hr).symm) _ _ _ hW (lv_sub hl [2, 3, 1, 0] rfl)
        · replace hr := iN c_6 hr
          refine lv_iconst (v := 1) hx hb d_M_goesWith_30 (by decide) ?_
          refine lv_iload_n hx hb d_M_goesWith_31 rfl (lv_at hl 3 rfl) ?_
          refine lv_ishl hx hb d_M_goesWith_32 ?_
          refine lv_goto (tgt := 37) hx hb d_M_goesWith_33 (by decide) ?_
          refine lv_ior hx hb d_M_goesWith_37 ?_
          refine lv_istore_n (lv' := [(2, .int (y2_1 ||| ((1 : Int32) <<< ((y3_1 : Int32) &&& 31)))), (0, .ref a_r0), (1, .int x1), (3, .int y3_1)]) hx hb d_M_goesWith_38 rfl hl (by decide) rfl (fun ls hl => ?_)
          refine lv_iinc (v := (y3_1 + 1)) (lv' := [(3, .int (y3_1 + 1)), (2, .int (y2_1 ||| ((1 : Int32) <<< ((y3_1 : Int32) &&& 31)))), (0, .ref a_r0), (1, .int x1)]) hx hb d_M_goesWith_39 hl (k := 3) rfl rfl (by decide) rfl (fun ls hl => ?_)
          refine lv_goto (tgt := 4) hx hb d_M_goesWith_42 (by decide) ?_
          exact ih_1 (y2_1 ||| ((1 : Int32) <<< ((y3_1 : Int32) &&& 31))) (y3_1 + 1) (hz1_1 _ (Option.some.inj hr).symm) _ _ _ hW (lv_sub hl [2, 3, 1, 0] rfl)
  exact hl_1 _ 0 0 hw_1 _ _ _ hW (lv_sub hl [2, 3, 1, 0] rfl)
def w_M_couldBe (cI : ClassId) (a_r0 : Nat) (a_r0_figures : Nat) (a_r0_kinds : Nat) (v_r0_weights v_r0_days v_r0_hampers v_r0_wants0 v_r0_left0 v_r0_done0 v_r0_thrown v_r0_refusals v_r0_letters v_r0_letterMany v_r0_at v_r0_isBad v_r0_statements v_r0_placeIn v_r0_letterOf v_r0_told v_r0_kept v_r0_imaged v_r0_hasImage v_r0_place0 v_r0_isTaking v_r0_keptIn v_r0_turns0 v_r0_turnOf v_r0_turned v_r0_order0 v_r0_likely0 v_r0_leftThen v_r0_row v_r0_rowMany v_r0_seed : Value) (r0_things : Int32) (r0_figures : Nat → Int32) (r0_kinds : Nat → Int32) : va_W := [(a_r0, .inr (9, [v_r0_weights, .int r0_things, .ref a_r0_kinds, .ref a_r0_figures, v_r0_days, v_r0_hampers, v_r0_wants0, v_r0_left0, v_r0_done0, v_r0_thrown, v_r0_refusals, v_r0_letters, v_r0_letterMany, v_r0_at, v_r0_isBad, v_r0_statements, v_r0_placeIn, v_r0_letterOf, v_r0_told, v_r0_kept, v_r0_imaged, v_r0_hasImage, v_r0_place0, v_r0_isTaking, v_r0_keptIn, v_r0_turns0, v_r0_turnOf, v_r0_turned, v_r0_order0, v_r0_likely0, v_r0_leftThen, v_r0_row, v_r0_rowMany, v_r0_seed])), (a_r0_figures, .inl (cI, 8, .inl r0_figures)), (a_r0_kinds, .inl (cI, 8, .inl r0_kinds))]
def F_M_couldBe_L5 (r0_things : Int32) (r0_figures : Nat → Int32) (r0_kinds : Nat → Int32) (x1 : Int32) (y2_1 : Int32) (y3_1 : Int32) : Option (((Int32) × (Int32)) ⊕ ((Int32))) :=
  (if r0_things ≤ y3_1 then (some (.inr y2_1)) else ((F_M_hasBit x1 y3_1).bind (fun q_3 => (if q_3 = 0 then (some (.inl ((y2_1 &&& 63), (y3_1 + 1)))) else ((F_M_goesWith r0_figures r0_kinds y3_1).bind (fun q_5 => (some (.inl ((y2_1 &&& q_5), (y3_1 + 1))))))))))
def F_M_couldBe (r0_things : Int32) (r0_figures : Nat → Int32) (r0_kinds : Nat → Int32) (x1 : Int32) : Option (Int32) :=
  ((wh (fun (s : (Int32) × (Int32)) => F_M_couldBe_L5 r0_things r0_figures r0_kinds x1 s.1 s.2) 400 ((63 : Int32), (0 : Int32))).bind (fun e_1 => (some e_1)))
set_option maxHeartbeats 4000000 in
set_option maxRecDepth 100000 in
theorem C_M_couldBe (l : Launch) (D : va_G) (cI cS : ClassId) (a_r0 : Nat) (a_r0_figures : Nat) (a_r0_kinds : Nat) (v_r0_weights v_r0_days v_r0_hampers v_r0_wants0 v_r0_left0 v_r0_done0 v_r0_thrown v_r0_refusals v_r0_letters v_r0_letterMany v_r0_at v_r0_isBad v_r0_statements v_r0_placeIn v_r0_letterOf v_r0_told v_r0_kept v_r0_imaged v_r0_hasImage v_r0_place0 v_r0_isTaking v_r0_keptIn v_r0_turns0 v_r0_turnOf v_r0_turned v_r0_order0 v_r0_likely0 v_r0_leftThen v_r0_row v_r0_rowMany v_r0_seed : Value) (r0_things : Int32) (r0_figures : Nat → Int32) (r0_kinds : Nat → Int32) (x1 : Int32) (o : Int32) (hr : F_M_couldBe r0_things r0_figures r0_kinds x1 = some o) : ctI l y_M_couldBe (Cond.code y_M_couldBe b_M_couldBe 4 (some FieldType.int)) (rmd 2) D (kTy cI cS) [.ref a_r0, .int x1] (w_M_couldBe cI a_r0 a_r0_figures a_r0_kinds v_r0_weights v_r0_days v_r0_hampers v_r0_wants0 v_r0_left0 v_r0_done0 v_r0_thrown v_r0_refusals v_r0_letters v_r0_letterMany v_r0_at v_r0_isBad v_r0_statements v_r0_placeIn v_r0_letterOf v_r0_told v_r0_kept v_r0_imaged v_r0_hasImage v_r0_place0 v_r0_isTaking v_r0_keptIn v_r0_turns0 v_r0_turnOf v_r0_turned v_r0_order0 v_r0_likely0 v_r0_leftThen v_r0_row v_r0_rowMany v_r0_seed r0_things r0_figures r0_kinds) (w_M_couldBe cI a_r0 a_r0_figures a_r0_kinds v_r0_weights v_r0_days v_r0_hampers v_r0_wants0 v_r0_left0 v_r0_done0 v_r0_thrown v_r0_refusals v_r0_letters v_r0_letterMany v_r0_at v_r0_isBad v_r0_statements v_r0_placeIn v_r0_letterOf v_r0_told v_r0_kept v_r0_imaged v_r0_hasImage v_r0_place0 v_r0_isTaking v_r0_keptIn v_r0_turns0 v_r0_turnOf v_r0_turned v_r0_order0 v_r0_likely0 v_r0_leftThen v_r0_row v_r0_rowMany v_r0_seed r0_things r0_figures r0_kinds) o := by
  unfold F_M_couldBe at hr
  refine ⟨rfl, fun sz => ct_of (w0 := (w_M_couldBe cI a_r0 a_r0_figures a_r0_kinds v_r0_weights v_r0_days v_r0_hampers v_r0_wants0 v_r0_left0 v_r0_done0 v_r0_thrown v_r0_refusals v_r0_letters v_r0_letterMany v_r0_at v_r0_isBad v_r0_statements v_r0_placeIn v_r0_letterOf v_r0_told v_r0_kept v_r0_imaged v_r0_hasImage v_r0_place0 v_r0_isTaking v_r0_keptIn v_r0_turns0 v_r0_turnOf v_r0_turned v_r0_order0 v_r0_likely0 v_r0_leftThen v_r0_row v_r0_rowMany v_r0_seed r0_things r0_figures r0_kinds)) (Qc := fun A => qI D (w_M_couldBe cI a_r0 a_r0_figures a_r0_kinds v_r0_weights v_r0_days v_r0_hampers v_r0_wants0 v_r0_left0 v_r0_done0 v_r0_thrown v_r0_refusals v_r0_letters v_r0_letterMany v_r0_at v_r0_isBad v_r0_statements v_r0_placeIn v_r0_letterOf v_r0_told v_r0_kept v_r0_imaged v_r0_hasImage v_r0_place0 v_r0_isTaking v_r0_keptIn v_r0_turns0 v_r0_turnOf v_r0_turned v_r0_order0 v_r0_likely0 v_r0_leftThen v_r0_row v_r0_rowMany v_r0_seed r0_things r0_figures r0_kinds) o A) rfl (Nat.le_of_ble_eq_true rfl) ?_ sz⟩
  intro p e s m below meth c A hA C hret ls hl hW
  have C : cx p s m ([.ref a_r0, .int x1] : List Value).toArray meth c b_M_couldBe 4 R_M D (kTy cI cS) (Cond.code y_M_couldBe b_M_couldBe 4 (some FieldType.int)) := C
  obtain ⟨hx, hb, hml, hown, hts, hK, hlk, hN⟩ := id C
  have hl : lv_has ls 4 [(0, .ref a_r0), (1, .int x1)] := hl
  obtain ⟨Q, hQ⟩ : ∃ Q, Q = MQ below (qI D (w_M_couldBe cI a_r0 a_r0_figures a_r0_kinds v_r0_weights v_r0_days v_r0_hampers v_r0_wants0 v_r0_left0 v_r0_done0 v_r0_thrown v_r0_refusals v_r0_letters v_r0_letterMany v_r0_at v_r0_isBad v_r0_statements v_r0_placeIn v_r0_letterOf v_r0_told v_r0_kept v_r0_imaged v_r0_hasImage v_r0_place0 v_r0_isTaking v_r0_keptIn v_r0_turns0 v_r0_turnOf v_r0_turned v_r0_order0 v_r0_likely0 v_r0_leftThen v_r0_row v_r0_rowMany v_r0_seed r0_things r0_figures r0_kinds) o A) ([.ref a_r0, .int x1] : List Value).toArray s 0 0 A := ⟨_, rfl⟩
  rw [← hQ]
  refine lv_bipush (v := 63) hx hb d_M_couldBe_0 (by decide) ?_
  refine lv_istore_n (lv' := [(2, .int 63), (0, .ref a_r0), (1, .int x1)]) hx hb d_M_couldBe_2 rfl hl (by decide) rfl (fun ls hl => ?_)
  refine lv_iconst (v := 0) hx hb d_M_couldBe_3 (by decide) ?_
  refine lv_istore_n (lv' := [(3, .int 0), (2, .int 63), (0, .ref a_r0), (1, .int x1)]) hx hb d_M_couldBe_4 rfl hl (by decide) rfl (fun ls hl => ?_)
  obtain ⟨ex_1, hw_1, hk_1⟩ := ob hr
  have hx_1 : ∀ (e_1 : (Int32)), e_1 = ex_1 → ∀ (H : Heap) (locs : List Loc) (ls : Array Slot), wd A s.heap D (w_M_couldBe cI a_r0 a_r0_figures a_r0_kinds v_r0_weights v_r0_days v_r0_hampers v_r0_wants0 v_r0_left0 v_r0_done0 v_r0_thrown v_r0_refusals v_r0_letters v_r0_letterMany v_r0_at v_r0_isBad v_r0_statements v_r0_placeIn v_r0_letterOf v_r0_told v_r0_kept v_r0_imaged v_r0_hasImage v_r0_place0 v_r0_isTaking v_r0_keptIn v_r0_turns0 v_r0_turnOf v_r0_turned v_r0_order0 v_r0_likely0 v_r0_leftThen v_r0_row v_r0_rowMany v_r0_seed r0_things r0_figures r0_kinds) H locs → lv_has ls 4 [(2, .int e_1)] → W p l e (rmd 2) s m ([.ref a_r0, .int x1] : List Value).toArray below meth c H locs 0 0 Q (F0 m 40 ls []) := by
    intro e_1 hE H locs ls hW hl
    subst hE; have hr := hk_1
    refine lv_iload_n hx hb d_M_couldBe_40 rfl (lv_at hl 0 rfl) ?_
    obtain rfl := Option.some.inj hr
    rw [hQ]; exact k_iret C hret hW d_M_couldBe_41
  have hl_1 : ∀ (k : Nat) (y2_1 : Int32) (y3_1 : Int32), wh (fun (s : (Int32) × (Int32)) => F_M_couldBe_L5 r0_things r0_figures r0_kinds x1 s.1 s.2) k (y2_1, y3_1) = some ex_1 → ∀ (H : Heap) (locs : List Loc) (ls : Array Slot), wd A s.heap D (w_M_couldBe cI a_r0 a_r0_figures a_r0_kinds v_r0_weights v_r0_days v_r0_hampers v_r0_wants0 v_r0_left0 v_r0_done0 v_r0_thrown v_r0_refusals v_r0_letters v_r0_letterMany v_r0_at v_r0_isBad v_r0_statements v_r0_placeIn v_r0_letterOf v_r0_told v_r0_kept v_r0_imaged v_r0_hasImage v_r0_place0 v_r0_isTaking v_r0_keptIn v_r0_turns0 v_r0_turnOf v_r0_turned v_r0_order0 v_r0_likely0 v_r0_leftThen v_r0_row v_r0_rowMany v_r0_seed r0_things r0_figures r0_kinds) H locs → lv_has ls 4 [(0, .ref a_r0), (1, .int x1), (2, .int y2_1), (3, .int y3_1)] → W p l e (rmd 2) s m ([.ref a_r0, .int x1] : List Value).toArray below meth c H locs 0 0 Q (F0 m 5 ls []) := by
    intro k
    induction k with
    | zero => intro y2_1 y3_1 hw; exact absurd hw wh_0
    | succ k ih_1 =>
      intro y2_1 y3_1 hw H locs ls hW hl
      obtain ⟨z_1, hr, hz1_1, hz2_1⟩ := wh_s hw
      have hr : F_M_couldBe_L5 r0_things r0_figures r0_kinds x1 y2_1 y3_1 = some z_1 := hr
      unfold F_M_couldBe_L5 at hr
      refine lv_iload_n hx hb d_M_couldBe_5 rfl (lv_at hl 3 rfl) ?_
      refine lv_aload_n hx hb d_M_couldBe_6 rfl (lv_at hl 0 rfl) ?_
      refine k_get i_M C hW 0 rfl rfl 1 (by decide) qf_M_71 rfl rfl d_M_couldBe_7 ?_
      refine lv_icmp_ge (tgt := 40) hx hb d_M_couldBe_10 (by decide) (fun c_2 => ?_) (fun c_2 => ?_)
      · replace hr := ip c_2 hr
        exact hx_1 _ (hz2_1 _ (Option.some.inj hr).symm) _ _ _ hW (lv_sub hl [2] rfl)
      · replace hr := iN c_2 hr
        refine lv_iload_n hx hb d_M_couldBe_13 rfl (lv_at hl 2 rfl) ?_
        refine lv_iload_n hx hb d_M_couldBe_14 rfl (lv_at hl 1 rfl) ?_
        refine lv_iload_n hx hb d_M_couldBe_15 rfl (lv_at hl 3 rfl) ?_
        obtain ⟨q_3, hc_3, hr⟩ := ob hr
        have ct_3 := C_M_hasBit l D cI cS x1 y3_1 q_3 hc_3
        refine k_goIp hA hW [] rfl rfl (k_runS C hA hW mw_M_hasBit ms_M_hasBit (ct_3.2 _) [] rfl rfl qm_M_85 ⟨Nat.le_of_ble_eq_true rfl, Nat.le_of_ble_eq_true rfl, Nat.zero_le _, Nat.zero_le _⟩ rfl rfl (Nat.le_of_ble_eq_true rfl) hl.1 d_M_couldBe_16) (fun H locs hW => ?_)
        refine lv_if_eq (tgt := 30) hx hb d_M_couldBe_19 (by decide) (fun c_4 => ?_) (fun c_4 => ?_)
        · replace hr := ip c_4 hr
          refine lv_bipush (v := 63) hx hb d_M_couldBe_30 (by decide) ?_
          refine lv_iand hx hb d_M_couldBe_32 ?_
          refine lv_istore_n (lv' := [(2, .int (y2_1 &&& 63)), (0, .ref a_r0), (1, .int x1), (3, .int y3_1)]) hx hb d_M_couldBe_33 rfl hl (by decide) rfl (fun ls hl => ?_)
          refine lv_iinc (v := (y3_1 + 1)) (lv' := [(3, .int (y3_1 + 1)), (2, .int (y2_1 &&& 63)), (0, .ref a_r0), (1, .int x1)]) hx hb d_M_couldBe_34 hl (k := 3) rfl rfl (by decide) rfl (fun ls hl => ?_)
          refine lv_goto (tgt := 5) hx hb d_M_couldBe_37 (by decide) ?_
          exact ih_1 (y2_1 &&& 63) (y3_1 + 1) (hz1_1 _ (Option.some.inj hr).symm) _ _ _ hW (lv_sub hl [2, 3, 1, 0] rfl)
        · replace hr := iN c_4 hr
          refine lv_aload_n hx hb d_M_couldBe_22 rfl (lv_at hl 0 rfl) ?_
          refine lv_iload_n hx hb d_M_couldBe_23 rfl (lv_at hl 3 rfl) ?_
          obtain ⟨q_5, hc_5, hr⟩ := ob hr
          have ct_5 := C_M_goesWith l D cI cS a_r0 a_r0_figures a_r0_kinds v_r0_weights (Value.int r0_things) v_r0_days v_r0_hampers v_r0_wants0 v_r0_left0 v_r0_done0 v_r0_thrown v_r0_refusals v_r0_letters v_r0_letterMany v_r0_at v_r0_isBad v_r0_statements v_r0_placeIn v_r0_letterOf v_r0_told v_r0_kept v_r0_imaged v_r0_hasImage v_r0_place0 v_r0_isTaking v_r0_keptIn v_r0_turns0 v_r0_turnOf v_r0_turned v_r0_order0 v_r0_likely0 v_r0_leftThen v_r0_row v_r0_rowMany v_r0_seed r0_figures r0_kinds y3_1 q_5 hc_5
          refine k_goIp hA hW [0, 1, 2] rfl rfl (k_runV C hA hW mw_M_goesWith mv_M_goesWith (ct_5.2 _) [0, 1, 2] rfl rfl 0 rfl rfl qm_M_96 ⟨Nat.le_of_ble_eq_true rfl, Nat.le_of_ble_eq_true rfl, Nat.zero_le _, Nat.zero_le _⟩ rfl rfl (Nat.le_of_ble_eq_true rfl) hl.1 d_M_couldBe_24) (fun H locs hW => ?_)
          refine lv_goto (tgt := 32) hx hb d_M_couldBe_27 (by decide) ?_
          refine lv_iand hx hb d_M_couldBe_32 ?_
          refine lv_istore_n (lv' := [(2, .int (y2_1 &&& q_5)), (0, .ref a_r0), (1, .int x1), (3, .int y3_1)]) hx hb d_M_couldBe_33 rfl hl (by decide) rfl (fun ls hl => ?_)
          refine lv_iinc (v := (y3_1 + 1)) (lv' := [(3, .int (y3_1 + 1)), (2, .int (y2_1 &&& q_5)), (0, .ref a_r0), (1, .int x1)]) hx hb d_M_couldBe_34 hl (k := 3) rfl rfl (by decide) rfl (fun ls hl => ?_)
          refine lv_goto (tgt := 5) hx hb d_M_couldBe_37 (by decide) ?_
          exact ih_1 (y2_1 &&& q_5) (y3_1 + 1) (hz1_1 _ (Option.some.inj hr).symm) _ _ _ hW (lv_sub hl [2, 3, 1, 0] rfl)
  exact hl_1 _ 63 0 hw_1 _ _ _ hW (lv_sub hl [2, 3, 1, 0] rfl)
def w_M_apart (cI : ClassId) (a_r0 : Nat) (a_r0_figures : Nat) (a_r0_hampers : Nat) (a_r0_kinds : Nat) (v_r0_weights v_r0_wants0 v_r0_left0 v_r0_done0 v_r0_refusals v_r0_letters v_r0_letterMany v_r0_at v_r0_isBad v_r0_statements v_r0_placeIn v_r0_letterOf v_r0_told v_r0_kept v_r0_imaged v_r0_hasImage v_r0_place0 v_r0_isTaking v_r0_keptIn v_r0_turns0 v_r0_turnOf v_r0_turned v_r0_order0 v_r0_likely0 v_r0_leftThen v_r0_row v_r0_rowMany v_r0_seed : Value) (r0_days : Int32) (r0_things : Int32) (r0_thrown : Int32) (r0_figures : Nat → Int32) (r0_hampers : Nat → Int32) (r0_kinds : Nat → Int32) : va_W := [(a_r0, .inr (9, [v_r0_weights, .int r0_things, .ref a_r0_kinds, .ref a_r0_figures, .int r0_days, .ref a_r0_hampers, v_r0_wants0, v_r0_left0, v_r0_done0, .int r0_thrown, v_r0_refusals, v_r0_letters, v_r0_letterMany, v_r0_at, v_r0_isBad, v_r0_statements, v_r0_placeIn, v_r0_letterOf, v_r0_told, v_r0_kept, v_r0_imaged, v_r0_hasImage, v_r0_place0, v_r0_isTaking, v_r0_keptIn, v_r0_turns0, v_r0_turnOf, v_r0_turned, v_r0_order0, v_r0_likely0, v_r0_leftThen, v_r0_row, v_r0_rowMany, v_r0_seed])), (a_r0_figures, .inl (cI, 8, .inl r0_figures)), (a_r0_hampers, .inl (cI, 8, .inl r0_hampers)), (a_r0_kinds, .inl (cI, 8, .inl r0_kinds))]
def F_M_apart_L21 (r0_days : Int32) (r0_things : Int32) (r0_figures : Nat → Int32) (r0_hampers : Nat → Int32) (r0_kinds : Nat → Int32) (y2_1 : Int32) (y1_3 : Int32) (y3_3 : Int32) : Option (((Int32) × (Int32)) ⊕ ((Int32))) :=
  (if r0_days ≤ y3_3 then (some (.inr y1_3)) else (ck y2_1 8 ((F_M_couldBe r0_things r0_figures r0_kinds (r0_hampers (Int32.toNatClampNeg y2_1))).bind (fun q_6 => (ck y3_3 8 ((F_M_couldBe r0_things r0_figures r0_kinds (r0_hampers (Int32.toNatClampNeg y3_3))).bind (fun q_8 => (if (q_6 &&& q_8) = 0 then (some (.inl ((y1_3 + 1), (y3_3 + 1)))) else (some (.inl ((y1_3 + 0), (y3_3 + 1))))))))))))
def F_M_apart_L9 (r0_days : Int32) (r0_things : Int32) (r0_figures : Nat → Int32) (r0_hampers : Nat → Int32) (r0_kinds : Nat → Int32) (y1_1 : Int32) (y2_1 : Int32) : Option (((Int32) × (Int32)) ⊕ ((Int32))) :=
  (if r0_days ≤ y2_1 then (some (.inr y1_1)) else ((wh (fun (s : (Int32) × (Int32)) => F_M_apart_L21 r0_days r0_things r0_figures r0_hampers r0_kinds y2_1 s.1 s.2) 400 (y1_1, (y2_1 + 1))).bind (fun e_3 => (some (.inl (e_3, (y2_1 + 1)))))))
def F_M_apart (r0_days : Int32) (r0_things : Int32) (r0_figures : Nat → Int32) (r0_hampers : Nat → Int32) (r0_kinds : Nat → Int32) : Option (Int32 × (Int32)) :=
  ((wh (fun (s : (Int32) × (Int32)) => F_M_apart_L9 r0_days r0_things r0_figures r0_hampers r0_kinds s.1 s.2) 400 ((0 : Int32), (0 : Int32))).bind (fun e_1 => (some (e_1, 0))))
set_option maxHeartbeats 4000000 in
set_option maxRecDepth 100000 in
theorem C_M_apart (l : Launch) (D : va_G) (cI cS : ClassId) (a_r0 : Nat) (a_r0_figures : Nat) (a_r0_hampers : Nat) (a_r0_kinds : Nat) (v_r0_weights v_r0_wants0 v_r0_left0 v_r0_done0 v_r0_refusals v_r0_letters v_r0_letterMany v_r0_at v_r0_isBad v_r0_statements v_r0_placeIn v_r0_letterOf v_r0_told v_r0_kept v_r0_imaged v_r0_hasImage v_r0_place0 v_r0_isTaking v_r0_keptIn v_r0_turns0 v_r0_turnOf v_r0_turned v_r0_order0 v_r0_likely0 v_r0_leftThen v_r0_row v_r0_rowMany v_r0_seed : Value) (r0_days : Int32) (r0_things : Int32) (r0_thrown : Int32) (r0_figures : Nat → Int32) (r0_hampers : Nat → Int32) (r0_kinds : Nat → Int32) (o : Int32 × (Int32)) (hr : F_M_apart r0_days r0_things r0_figures r0_hampers r0_kinds = some o) : ctI l y_M_apart (Cond.code y_M_apart b_M_apart 4 (some FieldType.int)) (rmd 3) D (kTy cI cS) [.ref a_r0] (w_M_apart cI a_r0 a_r0_figures a_r0_hampers a_r0_kinds v_r0_weights v_r0_wants0 v_r0_left0 v_r0_done0 v_r0_refusals v_r0_letters v_r0_letterMany v_r0_at v_r0_isBad v_r0_statements v_r0_placeIn v_r0_letterOf v_r0_told v_r0_kept v_r0_imaged v_r0_hasImage v_r0_place0 v_r0_isTaking v_r0_keptIn v_r0_turns0 v_r0_turnOf v_r0_turned v_r0_order0 v_r0_likely0 v_r0_leftThen v_r0_row v_r0_rowMany v_r0_seed r0_days r0_things r0_thrown r0_figures r0_hampers r0_kinds) (w_M_apart cI a_r0 a_r0_figures a_r0_hampers a_r0_kinds v_r0_weights v_r0_wants0 v_r0_left0 v_r0_done0 v_r0_refusals v_r0_letters v_r0_letterMany v_r0_at v_r0_isBad v_r0_statements v_r0_placeIn v_r0_letterOf v_r0_told v_r0_kept v_r0_imaged v_r0_hasImage v_r0_place0 v_r0_isTaking v_r0_keptIn v_r0_turns0 v_r0_turnOf v_r0_turned v_r0_order0 v_r0_likely0 v_r0_leftThen v_r0_row v_r0_rowMany v_r0_seed r0_days r0_things o.2 r0_figures r0_hampers r0_kinds) o.1 := by
  unfold F_M_apart at hr
  refine ⟨rfl, fun sz => ct_of (w0 := (w_M_apart cI a_r0 a_r0_figures a_r0_hampers a_r0_kinds v_r0_weights v_r0_wants0 v_r0_left0 v_r0_done0 v_r0_refusals v_r0_letters v_r0_letterMany v_r0_at v_r0_isBad v_r0_statements v_r0_placeIn v_r0_letterOf v_r0_told v_r0_kept v_r0_imaged v_r0_hasImage v_r0_place0 v_r0_isTaking v_r0_keptIn v_r0_turns0 v_r0_turnOf v_r0_turned v_r0_order0 v_r0_likely0 v_r0_leftThen v_r0_row v_r0_rowMany v_r0_seed r0_days r0_things r0_thrown r0_figures r0_hampers r0_kinds)) (Qc := fun A => qI D (w_M_apart cI a_r0 a_r0_figures a_r0_hampers a_r0_kinds v_r0_weights v_r0_wants0 v_r0_left0 v_r0_done0 v_r0_refusals v_r0_letters v_r0_letterMany v_r0_at v_r0_isBad v_r0_statements v_r0_placeIn v_r0_letterOf v_r0_told v_r0_kept v_r0_imaged v_r0_hasImage v_r0_place0 v_r0_isTaking v_r0_keptIn v_r0_turns0 v_r0_turnOf v_r0_turned v_r0_order0 v_r0_likely0 v_r0_leftThen v_r0_row v_r0_rowMany v_r0_seed r0_days r0_things o.2 r0_figures r0_hampers r0_kinds) o.1 A) rfl (Nat.le_of_ble_eq_true rfl) ?_ sz⟩
  intro p e s m below meth c A hA C hret ls hl hW
  have C : cx p s m ([.ref a_r0] : List Value).toArray meth c b_M_apart 4 R_M D (kTy cI cS) (Cond.code y_M_apart b_M_apart 4 (some FieldType.int)) := C
  obtain ⟨hx, hb, hml, hown, hts, hK, hlk, hN⟩ := id C
  have hl : lv_has ls 4 [(0, .ref a_r0)] := hl
  obtain ⟨Q, hQ⟩ : ∃ Q, Q = MQ below (qI D (w_M_apart cI a_r0 a_r0_figures a_r0_hampers a_r0_kinds v_r0_weights v_r0_wants0 v_r0_left0 v_r0_done0 v_r0_refusals v_r0_letters v_r0_letterMany v_r0_at v_r0_isBad v_r0_statements v_r0_placeIn v_r0_letterOf v_r0_told v_r0_kept v_r0_imaged v_r0_hasImage v_r0_place0 v_r0_isTaking v_r0_keptIn v_r0_turns0 v_r0_turnOf v_r0_turned v_r0_order0 v_r0_likely0 v_r0_leftThen v_r0_row v_r0_rowMany v_r0_seed r0_days r0_things o.2 r0_figures r0_hampers r0_kinds) o.1 A) ([.ref a_r0] : List Value).toArray s 0 0 A := ⟨_, rfl⟩
  rw [← hQ]
  refine lv_aload_n hx hb d_M_apart_0 rfl (lv_at hl 0 rfl) ?_
  refine lv_iconst (v := 0) hx hb d_M_apart_1 (by decide) ?_
  refine k_put i_M t_M_ok n_M C hW 0 rfl rfl 9 (by decide) qf_M_67 rfl rfl (ty := .int) rfl rfl rfl (Nat.le_of_ble_eq_true rfl) (ws' := (w_M_apart cI a_r0 a_r0_figures a_r0_hampers a_r0_kinds v_r0_weights v_r0_wants0 v_r0_left0 v_r0_done0 v_r0_refusals v_r0_letters v_r0_letterMany v_r0_at v_r0_isBad v_r0_statements v_r0_placeIn v_r0_letterOf v_r0_told v_r0_kept v_r0_imaged v_r0_hasImage v_r0_place0 v_r0_isTaking v_r0_keptIn v_r0_turns0 v_r0_turnOf v_r0_turned v_r0_order0 v_r0_likely0 v_r0_leftThen v_r0_row v_r0_rowMany v_r0_seed r0_days r0_things 0 r0_figures r0_hampers r0_kinds)) rfl d_M_apart_2 (fun H locs hW => ?_)
  refine lv_iconst (v := 0) hx hb d_M_apart_5 (by decide) ?_
  refine lv_istore_n (lv' := [(1, .int 0), (0, .ref a_r0)]) hx hb d_M_apart_6 rfl hl (by decide) rfl (fun ls hl => ?_)
  refine lv_iconst (v := 0) hx hb d_M_apart_7 (by decide) ?_
  refine lv_istore_n (lv' := [(2, .int 0), (1, .int 0), (0, .ref a_r0)]) hx hb d_M_apart_8 rfl hl (by decide) rfl (fun ls hl => ?_)
  obtain ⟨ex_1, hw_1, hk_1⟩ := ob hr
  have hx_1 : ∀ (e_1 : (Int32)), e_1 = ex_1 → ∀ (H : Heap) (locs : List Loc) (ls : Array Slot), wd A s.heap D (w_M_apart cI a_r0 a_r0_figures a_r0_hampers a_r0_kinds v_r0_weights v_r0_wants0 v_r0_left0 v_r0_done0 v_r0_refusals v_r0_letters v_r0_letterMany v_r0_at v_r0_isBad v_r0_statements v_r0_placeIn v_r0_letterOf v_r0_told v_r0_kept v_r0_imaged v_r0_hasImage v_r0_place0 v_r0_isTaking v_r0_keptIn v_r0_turns0 v_r0_turnOf v_r0_turned v_r0_order0 v_r0_likely0 v_r0_leftThen v_r0_row v_r0_rowMany v_r0_seed r0_days r0_things 0 r0_figures r0_hampers r0_kinds) H locs → lv_has ls 4 [(1, .int e_1)] → W p l e (rmd 3) s m ([.ref a_r0] : List Value).toArray below meth c H locs 0 0 Q (F0 m 73 ls []) := by
    intro e_1 hE H locs ls hW hl
    subst hE; have hr := hk_1
    refine lv_iload_n hx hb d_M_apart_73 rfl (lv_at hl 0 rfl) ?_
    obtain rfl := Option.some.inj hr
    rw [hQ]; exact k_iret C hret hW d_M_apart_74
  have hl_1 : ∀ (k : Nat) (y1_1 : Int32) (y2_1 : Int32), wh (fun (s : (Int32) × (Int32)) => F_M_apart_L9 r0_days r0_things r0_figures r0_hampers r0_kinds s.1 s.2) k (y1_1, y2_1) = some ex_1 → ∀ (H : Heap) (locs : List Loc) (ls : Array Slot), wd A s.heap D (w_M_apart cI a_r0 a_r0_figures a_r0_hampers a_r0_kinds v_r0_weights v_r0_wants0 v_r0_left0 v_r0_done0 v_r0_refusals v_r0_letters v_r0_letterMany v_r0_at v_r0_isBad v_r0_statements v_r0_placeIn v_r0_letterOf v_r0_told v_r0_kept v_r0_imaged v_r0_hasImage v_r0_place0 v_r0_isTaking v_r0_keptIn v_r0_turns0 v_r0_turnOf v_r0_turned v_r0_order0 v_r0_likely0 v_r0_leftThen v_r0_row v_r0_rowMany v_r0_seed r0_days r0_things 0 r0_figures r0_hampers r0_kinds) H locs → lv_has ls 4 [(0, .ref a_r0), (1, .int y1_1), (2, .int y2_1)] → W p l e (rmd 3) s m ([.ref a_r0] : List Value).toArray below meth c H locs 0 0 Q (F0 m 9 ls []) := by
    intro k
    induction k with
    | zero => intro y1_1 y2_1 hw; exact absurd hw wh_0
    | succ k ih_1 =>
      intro y1_1 y2_1 hw H locs ls hW hl
      obtain ⟨z_1, hr, hz1_1, hz2_1⟩ := wh_s hw
      have hr : F_M_apart_L9 r0_days r0_things r0_figures r0_hampers r0_kinds y1_1 y2_1 = some z_1 := hr
      unfold F_M_apart_L9 at hr
      refine lv_iload_n hx hb d_M_apart_9 rfl (lv_at hl 2 rfl) ?_
      refine lv_aload_n hx hb d_M_apart_10 rfl (lv_at hl 0 rfl) ?_
      refine k_get i_M C hW 0 rfl rfl 4 (by decide) qf_M_78 rfl rfl d_M_apart_11 ?_
      refine lv_icmp_ge (tgt := 73) hx hb d_M_apart_14 (by decide) (fun c_2 => ?_) (fun c_2 => ?_)
      · replace hr := ip c_2 hr
        exact hx_1 _ (hz2_1 _ (Option.some.inj hr).symm) _ _ _ hW (lv_sub hl [1] rfl)
      · replace hr := iN c_2 hr
        refine lv_iload_n hx hb d_M_apart_17 rfl (lv_at hl 2 rfl) ?_
        refine lv_iconst (v := 1) hx hb d_M_apart_18 (by decide) ?_
        refine lv_iadd hx hb d_M_apart_19 ?_
        refine lv_istore_n (lv' := [(3, .int (y2_1 + 1)), (0, .ref a_r0), (1, .int y1_1), (2, .int y2_1)]) hx hb d_M_apart_20 rfl hl (by decide) rfl (fun ls hl => ?_)
        obtain ⟨ex_3, hw_3, hk_3⟩ := ob hr
        have hx_3 : ∀ (e_3 : (Int32)), e_3 = ex_3 → ∀ (H : Heap) (locs : List Loc) (ls : Array Slot), wd A s.heap D (w_M_apart cI a_r0 a_r0_figures a_r0_hampers a_r0_kinds v_r0_weights v_r0_wants0 v_r0_left0 v_r0_done0 v_r0_refusals v_r0_letters v_r0_letterMany v_r0_at v_r0_isBad v_r0_statements v_r0_placeIn v_r0_letterOf v_r0_told v_r0_kept v_r0_imaged v_r0_hasImage v_r0_place0 v_r0_isTaking v_r0_keptIn v_r0_turns0 v_r0_turnOf v_r0_turned v_r0_order0 v_r0_likely0 v_r0_leftThen v_r0_row v_r0_rowMany v_r0_seed r0_days r0_things 0 r0_figures r0_hampers r0_kinds) H locs → lv_has ls 4 [(0, .ref a_r0), (2, .int y2_1), (1, .int e_3)] → W p l e (rmd 3) s m ([.ref a_r0] : List Value).toArray below meth c H locs 0 0 Q (F0 m 67 ls []) := by
          intro e_3 hE H locs ls hW hl
          subst hE; have hr := hk_3
          refine lv_iinc (v := (y2_1 + 1)) (lv' := [(2, .int (y2_1 + 1)), (0, .ref a_r0), (1, .int e_3)]) hx hb d_M_apart_67 hl (k := 1) rfl rfl (by decide) rfl (fun ls hl => ?_)
          refine lv_goto (tgt := 9) hx hb d_M_apart_70 (by decide) ?_
          exact ih_1 e_3 (y2_1 + 1) (hz1_1 _ (Option.some.inj hr).symm) _ _ _ hW (lv_sub hl [1, 2, 0] rfl)
        have hl_3 : ∀ (k : Nat) (y1_3 : Int32) (y3_3 : Int32), wh (fun (s : (Int32) × (Int32)) => F_M_apart_L21 r0_days r0_things r0_figures r0_hampers r0_kinds y2_1 s.1 s.2) k (y1_3, y3_3) = some ex_3 → ∀ (H : Heap) (locs : List Loc) (ls : Array Slot), wd A s.heap D (w_M_apart cI a_r0 a_r0_figures a_r0_hampers a_r0_kinds v_r0_weights v_r0_wants0 v_r0_left0 v_r0_done0 v_r0_refusals v_r0_letters v_r0_letterMany v_r0_at v_r0_isBad v_r0_statements v_r0_placeIn v_r0_letterOf v_r0_told v_r0_kept v_r0_imaged v_r0_hasImage v_r0_place0 v_r0_isTaking v_r0_keptIn v_r0_turns0 v_r0_turnOf v_r0_turned v_r0_order0 v_r0_likely0 v_r0_leftThen v_r0_row v_r0_rowMany v_r0_seed r0_days r0_things 0 r0_figures r0_hampers r0_kinds) H locs → lv_has ls 4 [(0, .ref a_r0), (2, .int y2_1), (1, .int y1_3), (3, .int y3_3)] → W p l e (rmd 3) s m ([.ref a_r0] : List Value).toArray below meth c H locs 0 0 Q (F0 m 21 ls []) := by
          intro k
          induction k with
          | zero => intro y1_3 y3_3 hw; exact absurd hw wh_0
          | succ k ih_3 =>
            intro y1_3 y3_3 hw H locs ls hW hl
            obtain ⟨z_3, hr, hz1_3, hz2_3⟩ := wh_s hw
            have hr : F_M_apart_L21 r0_days r0_things r0_figures r0_hampers r0_kinds y2_1 y1_3 y3_3 = some z_3 := hr
            unfold F_M_apart_L21 at hr
            refine lv_iload_n hx hb d_M_apart_21 rfl (lv_at hl 3 rfl) ?_
            refine lv_aload_n hx hb d_M_apart_22 rfl (lv_at hl 0 rfl) ?_
            refine k_get i_M C hW 0 rfl rfl 4 (by decide) qf_M_78 rfl rfl d_M_apart_23 ?_
            refine lv_icmp_ge (tgt := 67) hx hb d_M_apart_26 (by decide) (fun c_4 => ?_) (fun c_4 => ?_)
            · replace hr := ip c_4 hr
              exact hx_3 _ (hz2_3 _ (Option.some.inj hr).symm) _ _ _ hW (lv_sub hl [0, 1, 2] rfl)
            · replace hr := iN c_4 hr
              refine lv_iload_n hx hb d_M_apart_29 rfl (lv_at hl 2 rfl) ?_
              refine lv_aload_n hx hb d_M_apart_30 rfl (lv_at hl 0 rfl) ?_
              refine lv_aload_n hx hb d_M_apart_31 rfl (lv_at hl 0 rfl) ?_
              refine k_get i_M C hW 0 rfl rfl 5 (by decide) qf_M_19 rfl rfl d_M_apart_32 ?_
              refine lv_iload_n hx hb d_M_apart_35 rfl (lv_at hl 1 rfl) ?_
              obtain ⟨h_5, hr⟩ := ck_some hr
              refine k_iald C hW 2 rfl h_5 d_M_apart_36 ?_
              obtain ⟨q_6, hc_6, hr⟩ := ob hr
              have ct_6 := C_M_couldBe l D cI cS a_r0 a_r0_figures a_r0_kinds v_r0_weights (Value.int r0_days) (Value.ref a_r0_hampers) v_r0_wants0 v_r0_left0 v_r0_done0 (Value.int 0) v_r0_refusals v_r0_letters v_r0_letterMany v_r0_at v_r0_isBad v_r0_statements v_r0_placeIn v_r0_letterOf v_r0_told v_r0_kept v_r0_imaged v_r0_hasImage v_r0_place0 v_r0_isTaking v_r0_keptIn v_r0_turns0 v_r0_turnOf v_r0_turned v_r0_order0 v_r0_likely0 v_r0_leftThen v_r0_row v_r0_rowMany v_r0_seed r0_things r0_figures r0_kinds (r0_hampers (Int32.toNatClampNeg y2_1)) q_6 hc_6
              refine k_goIp hA hW [0, 1, 3] rfl rfl (k_runV C hA hW mw_M_couldBe mv_M_couldBe (ct_6.2 _) [0, 1, 3] rfl rfl 0 rfl rfl qm_M_99 ⟨Nat.le_of_ble_eq_true rfl, Nat.le_of_ble_eq_true rfl, Nat.zero_le _, Nat.zero_le _⟩ rfl rfl (Nat.le_of_ble_eq_true rfl) hl.1 d_M_apart_37) (fun H locs hW => ?_)
              refine lv_aload_n hx hb d_M_apart_40 rfl (lv_at hl 0 rfl) ?_
              refine lv_aload_n hx hb d_M_apart_41 rfl (lv_at hl 0 rfl) ?_
              refine k_get i_M C hW 0 rfl rfl 5 (by decide) qf_M_19 rfl rfl d_M_apart_42 ?_
              refine lv_iload_n hx hb d_M_apart_45 rfl (lv_at hl 3 rfl) ?_
              obtain ⟨h_7, hr⟩ := ck_some hr
              refine k_iald C hW 2 rfl h_7 d_M_apart_46 ?_
              obtain ⟨q_8, hc_8, hr⟩ := ob hr
              have ct_8 := C_M_couldBe l D cI cS a_r0 a_r0_figures a_r0_kinds v_r0_weights (Value.int r0_days) (Value.ref a_r0_hampers) v_r0_wants0 v_r0_left0 v_r0_done0 (Value.int 0) v_r0_refusals v_r0_letters v_r0_letterMany v_r0_at v_r0_isBad v_r0_statements v_r0_placeIn v_r0_letterOf v_r0_told v_r0_kept v_r0_imaged v_r0_hasImage v_r0_place0 v_r0_isTaking v_r0_keptIn v_r0_turns0 v_r0_turnOf v_r0_turned v_r0_order0 v_r0_likely0 v_r0_leftThen v_r0_row v_r0_rowMany v_r0_seed r0_things r0_figures r0_kinds (r0_hampers (Int32.toNatClampNeg y3_3)) q_8 hc_8
              refine k_goIp hA hW [0, 1, 3] rfl rfl (k_runV C hA hW mw_M_couldBe mv_M_couldBe (ct_8.2 _) [0, 1, 3] rfl rfl 0 rfl rfl qm_M_99 ⟨Nat.le_of_ble_eq_true rfl, Nat.le_of_ble_eq_true rfl, Nat.zero_le _, Nat.zero_le _⟩ rfl rfl (Nat.le_of_ble_eq_true rfl) hl.1 d_M_apart_47) (fun H locs hW => ?_)
              refine lv_iand hx hb d_M_apart_50 ?_
              refine lv_if_ne (tgt := 58) hx hb d_M_apart_51 (by decide) (fun c_9 => ?_) (fun c_9 => ?_)
              · replace hr := iN c_9 hr
                refine lv_iconst (v := 0) hx hb d_M_apart_58 (by decide) ?_
                refine lv_iadd hx hb d_M_apart_59 ?_
                refine lv_istore_n (lv' := [(1, .int (y1_3 + 0)), (0, .ref a_r0), (2, .int y2_1), (3, .int y3_3)]) hx hb d_M_apart_60 rfl hl (by decide) rfl (fun ls hl => ?_)
                refine lv_iinc (v := (y3_3 + 1)) (lv' := [(3, .int (y3_3 + 1)), (1, .int (y1_3 + 0)), (0, .ref a_r0), (2, .int y2_1)]) hx hb d_M_apart_61 hl (k := 3) rfl rfl (by decide) rfl (fun ls hl => ?_)
                refine lv_goto (tgt := 21) hx hb d_M_apart_64 (by decide) ?_
                exact ih_3 (y1_3 + 0) (y3_3 + 1) (hz1_3 _ (Option.some.inj hr).symm) _ _ _ hW (lv_sub hl [2, 3, 1, 0] rfl)
              · replace hr := ip c_9 hr
                refine lv_iconst (v := 1) hx hb d_M_apart_54 (by decide) ?_
                refine lv_goto (tgt := 59) hx hb d_M_apart_55 (by decide) ?_
                refine lv_iadd hx hb d_M_apart_59 ?_
                refine lv_istore_n (lv' := [(1, .int (y1_3 + 1)), (0, .ref a_r0), (2, .int y2_1), (3, .int y3_3)]) hx hb d_M_apart_60 rfl hl (by decide) rfl (fun ls hl => ?_)
                refine lv_iinc (v := (y3_3 + 1)) (lv' := [(3, .int (y3_3 + 1)), (1, .int (y1_3 + 1)), (0, .ref a_r0), (2, .int y2_1)]) hx hb d_M_apart_61 hl (k := 3) rfl rfl (by decide) rfl (fun ls hl => ?_)
                refine lv_goto (tgt := 21) hx hb d_M_apart_64 (by decide) ?_
                exact ih_3 (y1_3 + 1) (y3_3 + 1) (hz1_3 _ (Option.some.inj hr).symm) _ _ _ hW (lv_sub hl [2, 3, 1, 0] rfl)
        exact hl_3 _ y1_1 (y2_1 + 1) hw_3 _ _ _ hW (lv_sub hl [1, 3, 2, 0] rfl)
  exact hl_1 _ 0 0 hw_1 _ _ _ hW (lv_sub hl [2, 1, 0] rfl)
def w_M_carry_turnOf (cI : ClassId) (a_r0 : Nat) (a_r0_turnOf : Nat) (v_r0_weights v_r0_things v_r0_kinds v_r0_figures v_r0_days v_r0_hampers v_r0_wants0 v_r0_left0 v_r0_done0 v_r0_thrown v_r0_refusals v_r0_letters v_r0_letterMany v_r0_at v_r0_isBad v_r0_statements v_r0_placeIn v_r0_letterOf v_r0_told v_r0_kept v_r0_imaged v_r0_hasImage v_r0_turns0 v_r0_turned v_r0_order0 v_r0_likely0 v_r0_leftThen v_r0_row v_r0_rowMany v_r0_seed : Value) (r0_isTaking : Int32) (r0_place0 : Int32) (r0_turnOf : Nat → Int32) : va_W := [(a_r0, .inr (9, [v_r0_weights, v_r0_things, v_r0_kinds, v_r0_figures, v_r0_days, v_r0_hampers, v_r0_wants0, v_r0_left0, v_r0_done0, v_r0_thrown, v_r0_refusals, v_r0_letters, v_r0_letterMany, v_r0_at, v_r0_isBad, v_r0_statements, v_r0_placeIn, v_r0_letterOf, v_r0_told, v_r0_kept, v_r0_imaged, v_r0_hasImage, .int r0_place0, .int r0_isTaking, .ref a_r0_turnOf, v_r0_turns0, .ref a_r0_turnOf, v_r0_turned, v_r0_order0, v_r0_likely0, v_r0_leftThen, v_r0_row, v_r0_rowMany, v_r0_seed])), (a_r0_turnOf, .inl (cI, 41, .inl r0_turnOf))]
def F_M_carry_turnOf_J17_2 (r0_place0 : Int32) (r0_turnOf_2 : Nat → Int32) : Option (Int32 × (Int32) × (Nat → Int32)) :=
  (ck ((r0_place0 + 1) - 1) 41 (some ((r0_turnOf_2 (Int32.toNatClampNeg ((r0_place0 + 1) - 1))), (r0_place0 + 1), r0_turnOf_2)))
def F_M_carry_turnOf (r0_isTaking : Int32) (r0_place0 : Int32) (r0_turnOf : Nat → Int32) (x1 : Int32) : Option (Int32 × (Int32) × (Nat → Int32)) :=
  (if r0_isTaking = 0 then (F_M_carry_turnOf_J17_2 r0_place0 r0_turnOf) else (ck r0_place0 41 (F_M_carry_turnOf_J17_2 r0_place0 (upd r0_turnOf (Int32.toNatClampNeg r0_place0) x1))))
set_option maxHeartbeats 4000000 in
set_option maxRecDepth 100000 in
theorem C_M_carry_turnOf (l : Launch) (D : va_G) (cI cS : ClassId) (a_r0 : Nat) (a_r0_turnOf : Nat) (v_r0_weights v_r0_things v_r0_kinds v_r0_figures v_r0_days v_r0_hampers v_r0_wants0 v_r0_left0 v_r0_done0 v_r0_thrown v_r0_refusals v_r0_letters v_r0_letterMany v_r0_at v_r0_isBad v_r0_statements v_r0_placeIn v_r0_letterOf v_r0_told v_r0_kept v_r0_imaged v_r0_hasImage v_r0_turns0 v_r0_turned v_r0_order0 v_r0_likely0 v_r0_leftThen v_r0_row v_r0_rowMany v_r0_seed : Value) (r0_isTaking : Int32) (r0_place0 : Int32) (r0_turnOf : Nat → Int32) (x1 : Int32) (o : Int32 × (Int32) × (Nat → Int32)) (hr : F_M_carry_turnOf r0_isTaking r0_place0 r0_turnOf x1 = some o) : ctI l y_M_carry (Cond.code y_M_carry b_M_carry 2 (some FieldType.int)) (rmd 0) D (kTy cI cS) [.ref a_r0, .int x1] (w_M_carry_turnOf cI a_r0 a_r0_turnOf v_r0_weights v_r0_things v_r0_kinds v_r0_figures v_r0_days v_r0_hampers v_r0_wants0 v_r0_left0 v_r0_done0 v_r0_thrown v_r0_refusals v_r0_letters v_r0_letterMany v_r0_at v_r0_isBad v_r0_statements v_r0_placeIn v_r0_letterOf v_r0_told v_r0_kept v_r0_imaged v_r0_hasImage v_r0_turns0 v_r0_turned v_r0_order0 v_r0_likely0 v_r0_leftThen v_r0_row v_r0_rowMany v_r0_seed r0_isTaking r0_place0 r0_turnOf) (w_M_carry_turnOf cI a_r0 a_r0_turnOf v_r0_weights v_r0_things v_r0_kinds v_r0_figures v_r0_days v_r0_hampers v_r0_wants0 v_r0_left0 v_r0_done0 v_r0_thrown v_r0_refusals v_r0_letters v_r0_letterMany v_r0_at v_r0_isBad v_r0_statements v_r0_placeIn v_r0_letterOf v_r0_told v_r0_kept v_r0_imaged v_r0_hasImage v_r0_turns0 v_r0_turned v_r0_order0 v_r0_likely0 v_r0_leftThen v_r0_row v_r0_rowMany v_r0_seed r0_isTaking o.2.1 o.2.2) o.1 := by
  unfold F_M_carry_turnOf at hr
  refine ⟨rfl, fun sz => ct_of (w0 := (w_M_carry_turnOf cI a_r0 a_r0_turnOf v_r0_weights v_r0_things v_r0_kinds v_r0_figures v_r0_days v_r0_hampers v_r0_wants0 v_r0_left0 v_r0_done0 v_r0_thrown v_r0_refusals v_r0_letters v_r0_letterMany v_r0_at v_r0_isBad v_r0_statements v_r0_placeIn v_r0_letterOf v_r0_told v_r0_kept v_r0_imaged v_r0_hasImage v_r0_turns0 v_r0_turned v_r0_order0 v_r0_likely0 v_r0_leftThen v_r0_row v_r0_rowMany v_r0_seed r0_isTaking r0_place0 r0_turnOf)) (Qc := fun A => qI D (w_M_carry_turnOf cI a_r0 a_r0_turnOf v_r0_weights v_r0_things v_r0_kinds v_r0_figures v_r0_days v_r0_hampers v_r0_wants0 v_r0_left0 v_r0_done0 v_r0_thrown v_r0_refusals v_r0_letters v_r0_letterMany v_r0_at v_r0_isBad v_r0_statements v_r0_placeIn v_r0_letterOf v_r0_told v_r0_kept v_r0_imaged v_r0_hasImage v_r0_turns0 v_r0_turned v_r0_order0 v_r0_likely0 v_r0_leftThen v_r0_row v_r0_rowMany v_r0_seed r0_isTaking o.2.1 o.2.2) o.1 A) rfl (Nat.le_of_ble_eq_true rfl) ?_ sz⟩
  intro p e s m below meth c A hA C hret ls hl hW
  have C : cx p s m ([.ref a_r0, .int x1] : List Value).toArray meth c b_M_carry 2 R_M D (kTy cI cS) (Cond.code y_M_carry b_M_carry 2 (some FieldType.int)) := C
  obtain ⟨hx, hb, hml, hown, hts, hK, hlk, hN⟩ := id C
  have hl : lv_has ls 2 [(0, .ref a_r0), (1, .int x1)] := hl
  obtain ⟨Q, hQ⟩ : ∃ Q, Q = MQ below (qI D (w_M_carry_turnOf cI a_r0 a_r0_turnOf v_r0_weights v_r0_things v_r0_kinds v_r0_figures v_r0_days v_r0_hampers v_r0_wants0 v_r0_left0 v_r0_done0 v_r0_thrown v_r0_refusals v_r0_letters v_r0_letterMany v_r0_at v_r0_isBad v_r0_statements v_r0_placeIn v_r0_letterOf v_r0_told v_r0_kept v_r0_imaged v_r0_hasImage v_r0_turns0 v_r0_turned v_r0_order0 v_r0_likely0 v_r0_leftThen v_r0_row v_r0_rowMany v_r0_seed r0_isTaking o.2.1 o.2.2) o.1 A) ([.ref a_r0, .int x1] : List Value).toArray s 0 0 A := ⟨_, rfl⟩
  rw [← hQ]
  refine lv_aload_n hx hb d_M_carry_0 rfl (lv_at hl 0 rfl) ?_
  refine k_get i_M C hW 0 rfl rfl 23 (by decide) qf_M_177 rfl rfl d_M_carry_1 ?_
  have hJ_2 : ∀ (r0_turnOf_2 : Nat → Int32), F_M_carry_turnOf_J17_2 r0_place0 r0_turnOf_2 = some o → ∀ (H : Heap) (locs : List Loc) (ls : Array Slot), wd A s.heap D (w_M_carry_turnOf cI a_r0 a_r0_turnOf v_r0_weights v_r0_things v_r0_kinds v_r0_figures v_r0_days v_r0_hampers v_r0_wants0 v_r0_left0 v_r0_done0 v_r0_thrown v_r0_refusals v_r0_letters v_r0_letterMany v_r0_at v_r0_isBad v_r0_statements v_r0_placeIn v_r0_letterOf v_r0_told v_r0_kept v_r0_imaged v_r0_hasImage v_r0_turns0 v_r0_turned v_r0_order0 v_r0_likely0 v_r0_leftThen v_r0_row v_r0_rowMany v_r0_seed r0_isTaking r0_place0 r0_turnOf_2) H locs → lv_has ls 2 [(0, .ref a_r0)] → W p l e (rmd 0) s m ([.ref a_r0, .int x1] : List Value).toArray below meth c H locs 0 0 Q (F0 m 17 ls []) := by
    intro r0_turnOf_2 hr H locs ls hW hl
    unfold F_M_carry_turnOf_J17_2 at hr
    refine lv_aload_n hx hb d_M_carry_17 rfl (lv_at hl 0 rfl) ?_
    refine lv_dup hx hb d_M_carry_18 rfl ?_
    refine k_get i_M C hW 0 rfl rfl 22 (by decide) qf_M_183 rfl rfl d_M_carry_19 ?_
    refine lv_iconst (v := 1) hx hb d_M_carry_22 (by decide) ?_
    refine lv_iadd hx hb d_M_carry_23 ?_
    refine k_put i_M t_M_ok n_M C hW 0 rfl rfl 22 (by decide) qf_M_183 rfl rfl (ty := .int) rfl rfl rfl (Nat.le_of_ble_eq_true rfl) (ws' := (w_M_carry_turnOf cI a_r0 a_r0_turnOf v_r0_weights v_r0_things v_r0_kinds v_r0_figures v_r0_days v_r0_hampers v_r0_wants0 v_r0_left0 v_r0_done0 v_r0_thrown v_r0_refusals v_r0_letters v_r0_letterMany v_r0_at v_r0_isBad v_r0_statements v_r0_placeIn v_r0_letterOf v_r0_told v_r0_kept v_r0_imaged v_r0_hasImage v_r0_turns0 v_r0_turned v_r0_order0 v_r0_likely0 v_r0_leftThen v_r0_row v_r0_rowMany v_r0_seed r0_isTaking (r0_place0 + 1) r0_turnOf_2)) rfl d_M_carry_24 (fun H locs hW => ?_)
    refine lv_aload_n hx hb d_M_carry_27 rfl (lv_at hl 0 rfl) ?_
    refine k_get i_M C hW 0 rfl rfl 24 (by decide) qf_M_180 rfl rfl d_M_carry_28 ?_
    refine lv_aload_n hx hb d_M_carry_31 rfl (lv_at hl 0 rfl) ?_
    refine k_get i_M C hW 0 rfl rfl 22 (by decide) qf_M_183 rfl rfl d_M_carry_32 ?_
    refine lv_iconst (v := 1) hx hb d_M_carry_35 (by decide) ?_
    refine lv_isub hx hb d_M_carry_36 ?_
    obtain ⟨h_3, hr⟩ := ck_some hr
    refine k_iald C hW 1 rfl h_3 d_M_carry_37 ?_
    obtain rfl := Option.some.inj hr
    rw [hQ]; exact k_iret C hret hW d_M_carry_38
  refine lv_if_eq (tgt := 17) hx hb d_M_carry_4 (by decide) (fun c_1 => ?_) (fun c_1 => ?_)
  · replace hr := ip c_1 hr
    exact hJ_2 r0_turnOf hr _ _ _ hW (lv_sub hl [0] rfl)
  · replace hr := iN c_1 hr
    refine lv_aload_n hx hb d_M_carry_7 rfl (lv_at hl 0 rfl) ?_
    refine k_get i_M C hW 0 rfl rfl 24 (by decide) qf_M_180 rfl rfl d_M_carry_8 ?_
    refine lv_aload_n hx hb d_M_carry_11 rfl (lv_at hl 0 rfl) ?_
    refine k_get i_M C hW 0 rfl rfl 22 (by decide) qf_M_183 rfl rfl d_M_carry_12 ?_
    refine lv_iload_n hx hb d_M_carry_15 rfl (lv_at hl 1 rfl) ?_
    obtain ⟨h_4, hr⟩ := ck_some hr
    refine k_iast C hW 1 rfl h_4 (ws' := (w_M_carry_turnOf cI a_r0 a_r0_turnOf v_r0_weights v_r0_things v_r0_kinds v_r0_figures v_r0_days v_r0_hampers v_r0_wants0 v_r0_left0 v_r0_done0 v_r0_thrown v_r0_refusals v_r0_letters v_r0_letterMany v_r0_at v_r0_isBad v_r0_statements v_r0_placeIn v_r0_letterOf v_r0_told v_r0_kept v_r0_imaged v_r0_hasImage v_r0_turns0 v_r0_turned v_r0_order0 v_r0_likely0 v_r0_leftThen v_r0_row v_r0_rowMany v_r0_seed r0_isTaking r0_place0 (upd r0_turnOf (Int32.toNatClampNeg r0_place0) x1))) rfl d_M_carry_16 (fun H locs hW => ?_)
    exact hJ_2 (upd r0_turnOf (Int32.toNatClampNeg r0_place0) x1) hr _ _ _ hW (lv_sub hl [0] rfl)
def w_M_carryAll_turnOf (cI : ClassId) (a_r0 : Nat) (a_r0_figures : Nat) (a_r0_hampers : Nat) (a_r0_kinds : Nat) (a_r0_left0 : Nat) (a_r0_turnOf : Nat) (a_r0_wants0 : Nat) (a_r0_weights : Nat) (v_r0_thrown v_r0_refusals v_r0_letters v_r0_letterMany v_r0_at v_r0_isBad v_r0_statements v_r0_placeIn v_r0_letterOf v_r0_told v_r0_kept v_r0_imaged v_r0_hasImage v_r0_keptIn v_r0_turns0 v_r0_turned v_r0_order0 v_r0_likely0 v_r0_leftThen v_r0_row v_r0_rowMany v_r0_seed : Value) (r0_days : Int32) (r0_done0 : Int32) (r0_isTaking : Int32) (r0_place0 : Int32) (r0_things : Int32) (r0_figures : Nat → Int32) (r0_hampers : Nat → Int32) (r0_kinds : Nat → Int32) (r0_left0 : Nat → Int32) (r0_turnOf : Nat → Int32) (r0_wants0 : Nat → Int32) (r0_weights : Nat → Int32) : va_W := [(a_r0, .inr (9, [.ref a_r0_weights, .int r0_things, .ref a_r0_kinds, .ref a_r0_figures, .int r0_days, .ref a_r0_hampers, .ref a_r0_wants0, .ref a_r0_left0, .int r0_done0, v_r0_thrown, v_r0_refusals, v_r0_letters, v_r0_letterMany, v_r0_at, v_r0_isBad, v_r0_statements, v_r0_placeIn, v_r0_letterOf, v_r0_told, v_r0_kept, v_r0_imaged, v_r0_hasImage, .int r0_place0, .int r0_isTaking, v_r0_keptIn, v_r0_turns0, .ref a_r0_turnOf, v_r0_turned, v_r0_order0, v_r0_likely0, v_r0_leftThen, v_r0_row, v_r0_rowMany, v_r0_seed])), (a_r0_figures, .inl (cI, 8, .inl r0_figures)), (a_r0_hampers, .inl (cI, 8, .inl r0_hampers)), (a_r0_kinds, .inl (cI, 8, .inl r0_kinds)), (a_r0_left0, .inl (cI, 4, .inl r0_left0)), (a_r0_turnOf, .inl (cI, 41, .inl r0_turnOf)), (a_r0_wants0, .inl (cI, 4, .inl r0_wants0)), (a_r0_weights, .inl (cI, 6, .inl r0_weights))]
def F_M_carryAll_turnOf_L53 (x2 : Int32) (y3_5 : Int32) (r0_place0_5 : Int32) (r0_turnOf_5 : Nat → Int32) (r0_weights_5 : Nat → Int32) : Option (((Int32) × (Int32) × (Nat → Int32) × (Nat → Int32)) ⊕ ((Int32) × (Nat → Int32) × (Nat → Int32))) :=
  (if (6 : Int32) ≤ y3_5 then (some (.inr (r0_place0_5, r0_turnOf_5, r0_weights_5))) else (ck y3_5 6 ((F_M_carry_turnOf x2 r0_place0_5 r0_turnOf_5 (r0_weights_5 (Int32.toNatClampNeg y3_5))).bind (fun q_8 => (ck y3_5 6 (some (.inl ((y3_5 + 1), q_8.2.1, q_8.2.2, (upd r0_weights_5 (Int32.toNatClampNeg y3_5) q_8.1)))))))))
def F_M_carryAll_turnOf_L83 (x2 : Int32) (y3_10 : Int32) (r0_place0_10 : Int32) (r0_figures_10 : Nat → Int32) (r0_hampers_10 : Nat → Int32) (r0_kinds_10 : Nat → Int32) (r0_turnOf_10 : Nat → Int32) : Option (((Int32) × (Int32) × (Nat → Int32) × (Nat → Int32) × (Nat → Int32) × (Nat → Int32)) ⊕ ((Int32) × (Nat → Int32) × (Nat → Int32) × (Nat → Int32) × (Nat → Int32))) :=
  (if (8 : Int32) ≤ y3_10 then (some (.inr (r0_place0_10, r0_figures_10, r0_hampers_10, r0_kinds_10, r0_turnOf_10))) else (ck y3_10 8 ((F_M_carry_turnOf x2 r0_place0_10 r0_turnOf_10 (r0_kinds_10 (Int32.toNatClampNeg y3_10))).bind (fun q_13 => (ck y3_10 8 (ck y3_10 8 ((F_M_carry_turnOf x2 q_13.2.1 q_13.2.2 (r0_figures_10 (Int32.toNatClampNeg y3_10))).bind (fun q_16 => (ck y3_10 8 (ck y3_10 8 ((F_M_carry_turnOf x2 q_16.2.1 q_16.2.2 (r0_hampers_10 (Int32.toNatClampNeg y3_10))).bind (fun q_19 => (ck y3_10 8 (some (.inl ((y3_10 + 1), q_19.2.1, (upd r0_figures_10 (Int32.toNatClampNeg y3_10) q_16.1), (upd r0_hampers_10 (Int32.toNatClampNeg y3_10) q_19.1), (upd r0_kinds_10 (Int32.toNatClampNeg y3_10) q_13.1), q_19.2.2))))))))))))))))
def F_M_carryAll_turnOf_L145 (x2 : Int32) (y3_21 : Int32) (r0_place0_21 : Int32) (r0_left0_21 : Nat → Int32) (r0_turnOf_21 : Nat → Int32) (r0_wants0_21 : Nat → Int32) : Option (((Int32) × (Int32) × (Nat → Int32) × (Nat → Int32) × (Nat → Int32)) ⊕ ((Int32) × (Nat → Int32) × (Nat → Int32) × (Nat → Int32))) :=
  (if (4 : Int32) ≤ y3_21 then (some (.inr (r0_place0_21, r0_left0_21, r0_turnOf_21, r0_wants0_21))) else (ck y3_21 4 ((F_M_carry_turnOf x2 r0_place0_21 r0_turnOf_21 (r0_wants0_21 (Int32.toNatClampNeg y3_21))).bind (fun q_24 => (ck y3_21 4 (ck y3_21 4 ((F_M_carry_turnOf x2 q_24.2.1 q_24.2.2 (r0_left0_21 (Int32.toNatClampNeg y3_21))).bind (fun q_27 => (ck y3_21 4 (some (.inl ((y3_21 + 1), q_27.2.1, (upd r0_left0_21 (Int32.toNatClampNeg y3_21) q_27.1), q_27.2.2, (upd r0_wants0_21 (Int32.toNatClampNeg y3_21) q_24.1)))))))))))))
def F_M_carryAll_turnOf (r0_days : Int32) (r0_done0 : Int32) (r0_things : Int32) (r0_figures : Nat → Int32) (r0_hampers : Nat → Int32) (r0_kinds : Nat → Int32) (r0_left0 : Nat → Int32) (r0_turnOf : Nat → Int32) (r0_wants0 : Nat → Int32) (r0_weights : Nat → Int32) (x2 : Int32) : Option ((Int32) × (Int32) × (Int32) × (Int32) × (Int32) × (Nat → Int32) × (Nat → Int32) × (Nat → Int32) × (Nat → Int32) × (Nat → Int32) × (Nat → Int32) × (Nat → Int32)) :=
  (ckz x2 ((F_M_carry_turnOf x2 0 r0_turnOf r0_things).bind (fun q_2 => ((F_M_carry_turnOf x2 q_2.2.1 q_2.2.2 r0_days).bind (fun q_3 => ((F_M_carry_turnOf x2 q_3.2.1 q_3.2.2 r0_done0).bind (fun q_4 => ((wh (fun (s : (Int32) × (Int32) × (Nat → Int32) × (Nat → Int32)) => F_M_carryAll_turnOf_L53 x2 s.1 s.2.1 s.2.2.1 s.2.2.2) 400 ((0 : Int32), q_4.2.1, q_4.2.2, r0_weights)).bind (fun e_5 => ((wh (fun (s : (Int32) × (Int32) × (Nat → Int32) × (Nat → Int32) × (Nat → Int32) × (Nat → Int32)) => F_M_carryAll_turnOf_L83 x2 s.1 s.2.1 s.2.2.1 s.2.2.2.1 s.2.2.2.2.1 s.2.2.2.2.2) 400 ((0 : Int32), e_5.1, r0_figures, r0_hampers, r0_kinds, e_5.2.1)).bind (fun e_10 => ((wh (fun (s : (Int32) × (Int32) × (Nat → Int32) × (Nat → Int32) × (Nat → Int32)) => F_M_carryAll_turnOf_L145 x2 s.1 s.2.1 s.2.2.1 s.2.2.2.1 s.2.2.2.2) 400 ((0 : Int32), e_10.1, r0_left0, e_10.2.2.2.2, r0_wants0)).bind (fun e_21 => (some (q_3.1, q_4.1, x2, e_21.1, q_2.1, e_10.2.1, e_10.2.2.1, e_10.2.2.2.1, e_21.2.1, e_21.2.2.1, e_21.2.2.2, e_5.2.2)))))))))))))))
set_option maxHeartbeats 4000000 in
set_option maxRecDepth 100000 in
theorem C_M_carryAll_turnOf (l : Launch) (D : va_G) (cI cS : ClassId) (a_r0 : Nat) (a_r0_figures : Nat) (a_r0_hampers : Nat) (a_r0_kinds : Nat) (a_r0_left0 : Nat) (a_r0_turnOf : Nat) (a_r0_wants0 : Nat) (a_r0_weights : Nat) (v_r0_thrown v_r0_refusals v_r0_letters v_r0_letterMany v_r0_at v_r0_isBad v_r0_statements v_r0_placeIn v_r0_letterOf v_r0_told v_r0_kept v_r0_imaged v_r0_hasImage v_r0_keptIn v_r0_turns0 v_r0_turned v_r0_order0 v_r0_likely0 v_r0_leftThen v_r0_row v_r0_rowMany v_r0_seed : Value) (kf : Value) (hkf : kf = .ref a_r0_turnOf) (r0_days : Int32) (r0_done0 : Int32) (r0_isTaking : Int32) (r0_place0 : Int32) (r0_things : Int32) (r0_figures : Nat → Int32) (r0_hampers : Nat → Int32) (r0_kinds : Nat → Int32) (r0_left0 : Nat → Int32) (r0_turnOf : Nat → Int32) (r0_wants0 : Nat → Int32) (r0_weights : Nat → Int32) (x2 : Int32) (o : (Int32) × (Int32) × (Int32) × (Int32) × (Int32) × (Nat → Int32) × (Nat → Int32) × (Nat → Int32) × (Nat → Int32) × (Nat → Int32) × (Nat → Int32) × (Nat → Int32)) (hr : F_M_carryAll_turnOf r0_days r0_done0 r0_things r0_figures r0_hampers r0_kinds r0_left0 r0_turnOf r0_wants0 r0_weights x2 = some o) : ctV l y_M_carryAll (Cond.code y_M_carryAll b_M_carryAll 4 none) (rmd 1) D (kTy cI cS) [.ref a_r0, .ref a_r0_turnOf, .int x2] (w_M_carryAll_turnOf cI a_r0 a_r0_figures a_r0_hampers a_r0_kinds a_r0_left0 a_r0_turnOf a_r0_wants0 a_r0_weights v_r0_thrown v_r0_refusals v_r0_letters v_r0_letterMany v_r0_at v_r0_isBad v_r0_statements v_r0_placeIn v_r0_letterOf v_r0_told v_r0_kept v_r0_imaged v_r0_hasImage v_r0_keptIn v_r0_turns0 v_r0_turned v_r0_order0 v_r0_likely0 v_r0_leftThen v_r0_row v_r0_rowMany v_r0_seed r0_days r0_done0 r0_isTaking r0_place0 r0_things r0_figures r0_hampers r0_kinds r0_left0 r0_turnOf r0_wants0 r0_weights) (w_M_carryAll_turnOf cI a_r0 a_r0_figures a_r0_hampers a_r0_kinds a_r0_left0 a_r0_turnOf a_r0_wants0 a_r0_weights v_r0_thrown v_r0_refusals v_r0_letters v_r0_letterMany v_r0_at v_r0_isBad v_r0_statements v_r0_placeIn v_r0_letterOf v_r0_told v_r0_kept v_r0_imaged v_r0_hasImage kf v_r0_turns0 v_r0_turned v_r0_order0 v_r0_likely0 v_r0_leftThen v_r0_row v_r0_rowMany v_r0_seed o.1 o.2.1 o.2.2.1 o.2.2.2.1 o.2.2.2.2.1 o.2.2.2.2.2.1 o.2.2.2.2.2.2.1 o.2.2.2.2.2.2.2.1 o.2.2.2.2.2.2.2.2.1 o.2.2.2.2.2.2.2.2.2.1 o.2.2.2.2.2.2.2.2.2.2.1 o.2.2.2.2.2.2.2.2.2.2.2) := by
  unfold F_M_carryAll_turnOf at hr
  subst hkf
  refine ⟨rfl, fun sz => ct_of (w0 := (w_M_carryAll_turnOf cI a_r0 a_r0_figures a_r0_hampers a_r0_kinds a_r0_left0 a_r0_turnOf a_r0_wants0 a_r0_weights v_r0_thrown v_r0_refusals v_r0_letters v_r0_letterMany v_r0_at v_r0_isBad v_r0_statements v_r0_placeIn v_r0_letterOf v_r0_told v_r0_kept v_r0_imaged v_r0_hasImage v_r0_keptIn v_r0_turns0 v_r0_turned v_r0_order0 v_r0_likely0 v_r0_leftThen v_r0_row v_r0_rowMany v_r0_seed r0_days r0_done0 r0_isTaking r0_place0 r0_things r0_figures r0_hampers r0_kinds r0_left0 r0_turnOf r0_wants0 r0_weights)) (Qc := fun A => qV D (w_M_carryAll_turnOf cI a_r0 a_r0_figures a_r0_hampers a_r0_kinds a_r0_left0 a_r0_turnOf a_r0_wants0 a_r0_weights v_r0_thrown v_r0_refusals v_r0_letters v_r0_letterMany v_r0_at v_r0_isBad v_r0_statements v_r0_placeIn v_r0_letterOf v_r0_told v_r0_kept v_r0_imaged v_r0_hasImage (.ref a_r0_turnOf) v_r0_turns0 v_r0_turned v_r0_order0 v_r0_likely0 v_r0_leftThen v_r0_row v_r0_rowMany v_r0_seed o.1 o.2.1 o.2.2.1 o.2.2.2.1 o.2.2.2.2.1 o.2.2.2.2.2.1 o.2.2.2.2.2.2.1 o.2.2.2.2.2.2.2.1 o.2.2.2.2.2.2.2.2.1 o.2.2.2.2.2.2.2.2.2.1 o.2.2.2.2.2.2.2.2.2.2.1 o.2.2.2.2.2.2.2.2.2.2.2) A) rfl (Nat.le_of_ble_eq_true rfl) ?_ sz⟩
  intro p e s m below meth c A hA C hret ls hl hW
  have C : cx p s m ([.ref a_r0, .ref a_r0_turnOf, .int x2] : List Value).toArray meth c b_M_carryAll 4 R_M D (kTy cI cS) (Cond.code y_M_carryAll b_M_carryAll 4 none) := C
  obtain ⟨hx, hb, hml, hown, hts, hK, hlk, hN⟩ := id C
  have hl : lv_has ls 4 [(0, .ref a_r0), (1, .ref a_r0_turnOf), (2, .int x2)] := hl
  obtain ⟨Q, hQ⟩ : ∃ Q, Q = MQ below (qV D (w_M_carryAll_turnOf cI a_r0 a_r0_figures a_r0_hampers a_r0_kinds a_r0_left0 a_r0_turnOf a_r0_wants0 a_r0_weights v_r0_thrown v_r0_refusals v_r0_letters v_r0_letterMany v_r0_at v_r0_isBad v_r0_statements v_r0_placeIn v_r0_letterOf v_r0_told v_r0_kept v_r0_imaged v_r0_hasImage (.ref a_r0_turnOf) v_r0_turns0 v_r0_turned v_r0_order0 v_r0_likely0 v_r0_leftThen v_r0_row v_r0_rowMany v_r0_seed o.1 o.2.1 o.2.2.1 o.2.2.2.1 o.2.2.2.2.1 o.2.2.2.2.2.1 o.2.2.2.2.2.2.1 o.2.2.2.2.2.2.2.1 o.2.2.2.2.2.2.2.2.1 o.2.2.2.2.2.2.2.2.2.1 o.2.2.2.2.2.2.2.2.2.2.1 o.2.2.2.2.2.2.2.2.2.2.2) A) ([.ref a_r0, .ref a_r0_turnOf, .int x2] : List Value).toArray s 0 0 A := ⟨_, rfl⟩
  rw [← hQ]
  refine lv_aload_n hx hb d_M_carryAll_0 rfl (lv_at hl 0 rfl) ?_
  refine lv_aload_n hx hb d_M_carryAll_1 rfl (lv_at hl 1 rfl) ?_
  refine k_put i_M t_M_ok n_M C hW 0 rfl rfl 24 (by decide) qf_M_180 rfl rfl (ty := .array .int) rfl rfl rfl (Nat.le_of_ble_eq_true rfl) (ws' := (w_M_carryAll_turnOf cI a_r0 a_r0_figures a_r0_hampers a_r0_kinds a_r0_left0 a_r0_turnOf a_r0_wants0 a_r0_weights v_r0_thrown v_r0_refusals v_r0_letters v_r0_letterMany v_r0_at v_r0_isBad v_r0_statements v_r0_placeIn v_r0_letterOf v_r0_told v_r0_kept v_r0_imaged v_r0_hasImage (.ref a_r0_turnOf) v_r0_turns0 v_r0_turned v_r0_order0 v_r0_likely0 v_r0_leftThen v_r0_row v_r0_rowMany v_r0_seed r0_days r0_done0 r0_isTaking r0_place0 r0_things r0_figures r0_hampers r0_kinds r0_left0 r0_turnOf r0_wants0 r0_weights)) rfl d_M_carryAll_2 (fun H locs hW => ?_)
  refine lv_aload_n hx hb d_M_carryAll_5 rfl (lv_at hl 0 rfl) ?_
  refine lv_iload_n hx hb d_M_carryAll_6 rfl (lv_at hl 2 rfl) ?_
  obtain ⟨h_1, hf_1, hr⟩ := ckz_some hr
  refine k_put i_M t_M_ok n_M C hW 0 rfl rfl 23 (by decide) qf_M_177 rfl rfl (ty := .boolean) rfl h_1 hf_1 (Nat.le_of_ble_eq_true rfl) (ws' := (w_M_carryAll_turnOf cI a_r0 a_r0_figures a_r0_hampers a_r0_kinds a_r0_left0 a_r0_turnOf a_r0_wants0 a_r0_weights v_r0_thrown v_r0_refusals v_r0_letters v_r0_letterMany v_r0_at v_r0_isBad v_r0_statements v_r0_placeIn v_r0_letterOf v_r0_told v_r0_kept v_r0_imaged v_r0_hasImage (.ref a_r0_turnOf) v_r0_turns0 v_r0_turned v_r0_order0 v_r0_likely0 v_r0_leftThen v_r0_row v_r0_rowMany v_r0_seed r0_days r0_done0 x2 r0_place0 r0_things r0_figures r0_hampers r0_kinds r0_left0 r0_turnOf r0_wants0 r0_weights)) rfl d_M_carryAll_7 (fun H locs hW => ?_)
  refine lv_aload_n hx hb d_M_carryAll_10 rfl (lv_at hl 0 rfl) ?_
  refine lv_iconst (v := 0) hx hb d_M_carryAll_11 (by decide) ?_
  refine k_put i_M t_M_ok n_M C hW 0 rfl rfl 22 (by decide) qf_M_183 rfl rfl (ty := .int) rfl rfl rfl (Nat.le_of_ble_eq_true rfl) (ws' := (w_M_carryAll_turnOf cI a_r0 a_r0_figures a_r0_hampers a_r0_kinds a_r0_left0 a_r0_turnOf a_r0_wants0 a_r0_weights v_r0_thrown v_r0_refusals v_r0_letters v_r0_letterMany v_r0_at v_r0_isBad v_r0_statements v_r0_placeIn v_r0_letterOf v_r0_told v_r0_kept v_r0_imaged v_r0_hasImage (.ref a_r0_turnOf) v_r0_turns0 v_r0_turned v_r0_order0 v_r0_likely0 v_r0_leftThen v_r0_row v_r0_rowMany v_r0_seed r0_days r0_done0 x2 0 r0_things r0_figures r0_hampers r0_kinds r0_left0 r0_turnOf r0_wants0 r0_weights)) rfl d_M_carryAll_12 (fun H locs hW => ?_)
  refine lv_aload_n hx hb d_M_carryAll_15 rfl (lv_at hl 0 rfl) ?_
  refine lv_aload_n hx hb d_M_carryAll_16 rfl (lv_at hl 0 rfl) ?_
  refine lv_aload_n hx hb d_M_carryAll_17 rfl (lv_at hl 0 rfl) ?_
  refine k_get i_M C hW 0 rfl rfl 1 (by decide) qf_M_71 rfl rfl d_M_carryAll_18 ?_
  obtain ⟨q_2, hc_2, hr⟩ := ob hr
  have ct_2 := C_M_carry_turnOf l D cI cS a_r0 a_r0_turnOf (Value.ref a_r0_weights) (Value.int r0_things) (Value.ref a_r0_kinds) (Value.ref a_r0_figures) (Value.int r0_days) (Value.ref a_r0_hampers) (Value.ref a_r0_wants0) (Value.ref a_r0_left0) (Value.int r0_done0) v_r0_thrown v_r0_refusals v_r0_letters v_r0_letterMany v_r0_at v_r0_isBad v_r0_statements v_r0_placeIn v_r0_letterOf v_r0_told v_r0_kept v_r0_imaged v_r0_hasImage v_r0_turns0 v_r0_turned v_r0_order0 v_r0_likely0 v_r0_leftThen v_r0_row v_r0_rowMany v_r0_seed x2 0 r0_turnOf r0_things q_2 hc_2
  refine k_goI hA hW [0, 5] rfl ct_2.1 (ws' := (w_M_carryAll_turnOf cI a_r0 a_r0_figures a_r0_hampers a_r0_kinds a_r0_left0 a_r0_turnOf a_r0_wants0 a_r0_weights v_r0_thrown v_r0_refusals v_r0_letters v_r0_letterMany v_r0_at v_r0_isBad v_r0_statements v_r0_placeIn v_r0_letterOf v_r0_told v_r0_kept v_r0_imaged v_r0_hasImage (.ref a_r0_turnOf) v_r0_turns0 v_r0_turned v_r0_order0 v_r0_likely0 v_r0_leftThen v_r0_row v_r0_rowMany v_r0_seed r0_days r0_done0 x2 q_2.2.1 r0_things r0_figures r0_hampers r0_kinds r0_left0 q_2.2.2 r0_wants0 r0_weights)) rfl (k_runV C hA hW mw_M_carry mv_M_carry (ct_2.2 _) [0, 5] rfl rfl 0 rfl rfl qm_M_186 ⟨Nat.le_of_ble_eq_true rfl, Nat.le_of_ble_eq_true rfl, Nat.zero_le _, Nat.zero_le _⟩ rfl rfl (Nat.le_of_ble_eq_true rfl) hl.1 d_M_carryAll_21) (fun H locs hW => ?_)
  refine k_put i_M t_M_ok n_M C hW 0 rfl rfl 1 (by decide) qf_M_71 rfl rfl (ty := .int) rfl rfl rfl (Nat.le_of_ble_eq_true rfl) (ws' := (w_M_carryAll_turnOf cI a_r0 a_r0_figures a_r0_hampers a_r0_kinds a_r0_left0 a_r0_turnOf a_r0_wants0 a_r0_weights v_r0_thrown v_r0_refusals v_r0_letters v_r0_letterMany v_r0_at v_r0_isBad v_r0_statements v_r0_placeIn v_r0_letterOf v_r0_told v_r0_kept v_r0_imaged v_r0_hasImage (.ref a_r0_turnOf) v_r0_turns0 v_r0_turned v_r0_order0 v_r0_likely0 v_r0_leftThen v_r0_row v_r0_rowMany v_r0_seed r0_days r0_done0 x2 q_2.2.1 q_2.1 r0_figures r0_hampers r0_kinds r0_left0 q_2.2.2 r0_wants0 r0_weights)) rfl d_M_carryAll_24 (fun H locs hW => ?_)
  refine lv_aload_n hx hb d_M_carryAll_27 rfl (lv_at hl 0 rfl) ?_
  refine lv_aload_n hx hb d_M_carryAll_28 rfl (lv_at hl 0 rfl) ?_
  refine lv_aload_n hx hb d_M_carryAll_29 rfl (lv_at hl 0 rfl) ?_
  refine k_get i_M C hW 0 rfl rfl 4 (by decide) qf_M_78 rfl rfl d_M_carryAll_30 ?_
  obtain ⟨q_3, hc_3, hr⟩ := ob hr
  have ct_3 := C_M_carry_turnOf l D cI cS a_r0 a_r0_turnOf (Value.ref a_r0_weights) (Value.int q_2.1) (Value.ref a_r0_kinds) (Value.ref a_r0_figures) (Value.int r0_days) (Value.ref a_r0_hampers) (Value.ref a_r0_wants0) (Value.ref a_r0_left0) (Value.int r0_done0) v_r0_thrown v_r0_refusals v_r0_letters v_r0_letterMany v_r0_at v_r0_isBad v_r0_statements v_r0_placeIn v_r0_letterOf v_r0_told v_r0_kept v_r0_imaged v_r0_hasImage v_r0_turns0 v_r0_turned v_r0_order0 v_r0_likely0 v_r0_leftThen v_r0_row v_r0_rowMany v_r0_seed x2 q_2.2.1 q_2.2.2 r0_days q_3 hc_3
  refine k_goI hA hW [0, 5] rfl ct_3.1 (ws' := (w_M_carryAll_turnOf cI a_r0 a_r0_figures a_r0_hampers a_r0_kinds a_r0_left0 a_r0_turnOf a_r0_wants0 a_r0_weights v_r0_thrown v_r0_refusals v_r0_letters v_r0_letterMany v_r0_at v_r0_isBad v_r0_statements v_r0_placeIn v_r0_letterOf v_r0_told v_r0_kept v_r0_imaged v_r0_hasImage (.ref a_r0_turnOf) v_r0_turns0 v_r0_turned v_r0_order0 v_r0_likely0 v_r0_leftThen v_r0_row v_r0_rowMany v_r0_seed r0_days r0_done0 x2 q_3.2.1 q_2.1 r0_figures r0_hampers r0_kinds r0_left0 q_3.2.2 r0_wants0 r0_weights)) rfl (k_runV C hA hW mw_M_carry mv_M_carry (ct_3.2 _) [0, 5] rfl rfl 0 rfl rfl qm_M_186 ⟨Nat.le_of_ble_eq_true rfl, Nat.le_of_ble_eq_true rfl, Nat.zero_le _, Nat.zero_le _⟩ rfl rfl (Nat.le_of_ble_eq_true rfl) hl.1 d_M_carryAll_33) (fun H locs hW => ?_)
  refine k_put i_M t_M_ok n_M C hW 0 rfl rfl 4 (by decide) qf_M_78 rfl rfl (ty := .int) rfl rfl rfl (Nat.le_of_ble_eq_true rfl) (ws' := (w_M_carryAll_turnOf cI a_r0 a_r0_figures a_r0_hampers a_r0_kinds a_r0_left0 a_r0_turnOf a_r0_wants0 a_r0_weights v_r0_thrown v_r0_refusals v_r0_letters v_r0_letterMany v_r0_at v_r0_isBad v_r0_statements v_r0_placeIn v_r0_letterOf v_r0_told v_r0_kept v_r0_imaged v_r0_hasImage (.ref a_r0_turnOf) v_r0_turns0 v_r0_turned v_r0_order0 v_r0_likely0 v_r0_leftThen v_r0_row v_r0_rowMany v_r0_seed q_3.1 r0_done0 x2 q_3.2.1 q_2.1 r0_figures r0_hampers r0_kinds r0_left0 q_3.2.2 r0_wants0 r0_weights)) rfl d_M_carryAll_36 (fun H locs hW => ?_)
  refine lv_aload_n hx hb d_M_carryAll_39 rfl (lv_at hl 0 rfl) ?_
  refine lv_aload_n hx hb d_M_carryAll_40 rfl (lv_at hl 0 rfl) ?_
  refine lv_aload_n hx hb d_M_carryAll_41 rfl (lv_at hl 0 rfl) ?_
  refine k_get i_M C hW 0 rfl rfl 8 (by decide) qf_M_105 rfl rfl d_M_carryAll_42 ?_
  obtain ⟨q_4, hc_4, hr⟩ := ob hr
  have ct_4 := C_M_carry_turnOf l D cI cS a_r0 a_r0_turnOf (Value.ref a_r0_weights) (Value.int q_2.1) (Value.ref a_r0_kinds) (Value.ref a_r0_figures) (Value.int q_3.1) (Value.ref a_r0_hampers) (Value.ref a_r0_wants0) (Value.ref a_r0_left0) (Value.int r0_done0) v_r0_thrown v_r0_refusals v_r0_letters v_r0_letterMany v_r0_at v_r0_isBad v_r0_statements v_r0_placeIn v_r0_letterOf v_r0_told v_r0_kept v_r0_imaged v_r0_hasImage v_r0_turns0 v_r0_turned v_r0_order0 v_r0_likely0 v_r0_leftThen v_r0_row v_r0_rowMany v_r0_seed x2 q_3.2.1 q_3.2.2 r0_done0 q_4 hc_4
  refine k_goI hA hW [0, 5] rfl ct_4.1 (ws' := (w_M_carryAll_turnOf cI a_r0 a_r0_figures a_r0_hampers a_r0_kinds a_r0_left0 a_r0_turnOf a_r0_wants0 a_r0_weights v_r0_thrown v_r0_refusals v_r0_letters v_r0_letterMany v_r0_at v_r0_isBad v_r0_statements v_r0_placeIn v_r0_letterOf v_r0_told v_r0_kept v_r0_imaged v_r0_hasImage (.ref a_r0_turnOf) v_r0_turns0 v_r0_turned v_r0_order0 v_r0_likely0 v_r0_leftThen v_r0_row v_r0_rowMany v_r0_seed q_3.1 r0_done0 x2 q_4.2.1 q_2.1 r0_figures r0_hampers r0_kinds r0_left0 q_4.2.2 r0_wants0 r0_weights)) rfl (k_runV C hA hW mw_M_carry mv_M_carry (ct_4.2 _) [0, 5] rfl rfl 0 rfl rfl qm_M_186 ⟨Nat.le_of_ble_eq_true rfl, Nat.le_of_ble_eq_true rfl, Nat.zero_le _, Nat.zero_le _⟩ rfl rfl (Nat.le_of_ble_eq_true rfl) hl.1 d_M_carryAll_45) (fun H locs hW => ?_)
  refine k_put i_M t_M_ok n_M C hW 0 rfl rfl 8 (by decide) qf_M_105 rfl rfl (ty := .int) rfl rfl rfl (Nat.le_of_ble_eq_true rfl) (ws' := (w_M_carryAll_turnOf cI a_r0 a_r0_figures a_r0_hampers a_r0_kinds a_r0_left0 a_r0_turnOf a_r0_wants0 a_r0_weights v_r0_thrown v_r0_refusals v_r0_letters v_r0_letterMany v_r0_at v_r0_isBad v_r0_statements v_r0_placeIn v_r0_letterOf v_r0_told v_r0_kept v_r0_imaged v_r0_hasImage (.ref a_r0_turnOf) v_r0_turns0 v_r0_turned v_r0_order0 v_r0_likely0 v_r0_leftThen v_r0_row v_r0_rowMany v_r0_seed q_3.1 q_4.1 x2 q_4.2.1 q_2.1 r0_figures r0_hampers r0_kinds r0_left0 q_4.2.2 r0_wants0 r0_weights)) rfl d_M_carryAll_48 (fun H locs hW => ?_)
  refine lv_iconst (v := 0) hx hb d_M_carryAll_51 (by decide) ?_
  refine lv_istore_n (lv' := [(3, .int 0), (0, .ref a_r0), (1, .ref a_r0_turnOf), (2, .int x2)]) hx hb d_M_carryAll_52 rfl hl (by decide) rfl (fun ls hl => ?_)
  obtain ⟨ex_5, hw_5, hk_5⟩ := ob hr
  have hx_5 : ∀ (e_5 : (Int32) × (Nat → Int32) × (Nat → Int32)), e_5 = ex_5 → ∀ (H : Heap) (locs : List Loc) (ls : Array Slot), wd A s.heap D (w_M_carryAll_turnOf cI a_r0 a_r0_figures a_r0_hampers a_r0_kinds a_r0_left0 a_r0_turnOf a_r0_wants0 a_r0_weights v_r0_thrown v_r0_refusals v_r0_letters v_r0_letterMany v_r0_at v_r0_isBad v_r0_statements v_r0_placeIn v_r0_letterOf v_r0_told v_r0_kept v_r0_imaged v_r0_hasImage (.ref a_r0_turnOf) v_r0_turns0 v_r0_turned v_r0_order0 v_r0_likely0 v_r0_leftThen v_r0_row v_r0_rowMany v_r0_seed q_3.1 q_4.1 x2 e_5.1 q_2.1 r0_figures r0_hampers r0_kinds r0_left0 e_5.2.1 r0_wants0 e_5.2.2) H locs → lv_has ls 4 [(0, .ref a_r0)] → W p l e (rmd 1) s m ([.ref a_r0, .ref a_r0_turnOf, .int x2] : List Value).toArray below meth c H locs 0 0 Q (F0 m 81 ls []) := by
    intro e_5 hE H locs ls hW hl
    subst hE; have hr := hk_5
    refine lv_iconst (v := 0) hx hb d_M_carryAll_81 (by decide) ?_
    refine lv_istore_n (lv' := [(3, .int 0), (0, .ref a_r0)]) hx hb d_M_carryAll_82 rfl hl (by decide) rfl (fun ls hl => ?_)
    obtain ⟨ex_10, hw_10, hk_10⟩ := ob hr
    have hx_10 : ∀ (e_10 : (Int32) × (Nat → Int32) × (Nat → Int32) × (Nat → Int32) × (Nat → Int32)), e_10 = ex_10 → ∀ (H : Heap) (locs : List Loc) (ls : Array Slot), wd A s.heap D (w_M_carryAll_turnOf cI a_r0 a_r0_figures a_r0_hampers a_r0_kinds a_r0_left0 a_r0_turnOf a_r0_wants0 a_r0_weights v_r0_thrown v_r0_refusals v_r0_letters v_r0_letterMany v_r0_at v_r0_isBad v_r0_statements v_r0_placeIn v_r0_letterOf v_r0_told v_r0_kept v_r0_imaged v_r0_hasImage (.ref a_r0_turnOf) v_r0_turns0 v_r0_turned v_r0_order0 v_r0_likely0 v_r0_leftThen v_r0_row v_r0_rowMany v_r0_seed q_3.1 q_4.1 x2 e_10.1 q_2.1 e_10.2.1 e_10.2.2.1 e_10.2.2.2.1 r0_left0 e_10.2.2.2.2 r0_wants0 e_5.2.2) H locs → lv_has ls 4 [(0, .ref a_r0)] → W p l e (rmd 1) s m ([.ref a_r0, .ref a_r0_turnOf, .int x2] : List Value).toArray below meth c H locs 0 0 Q (F0 m 143 ls []) := by
      intro e_10 hE H locs ls hW hl
      subst hE; have hr := hk_10
      refine lv_iconst (v := 0) hx hb d_M_carryAll_143 (by decide) ?_
      refine lv_istore_n (lv' := [(3, .int 0), (0, .ref a_r0)]) hx hb d_M_carryAll_144 rfl hl (by decide) rfl (fun ls hl => ?_)
      obtain ⟨ex_21, hw_21, hk_21⟩ := ob hr
      have hx_21 : ∀ (e_21 : (Int32) × (Nat → Int32) × (Nat → Int32) × (Nat → Int32)), e_21 = ex_21 → ∀ (H : Heap) (locs : List Loc) (ls : Array Slot), wd A s.heap D (w_M_carryAll_turnOf cI a_r0 a_r0_figures a_r0_hampers a_r0_kinds a_r0_left0 a_r0_turnOf a_r0_wants0 a_r0_weights v_r0_thrown v_r0_refusals v_r0_letters v_r0_letterMany v_r0_at v_r0_isBad v_r0_statements v_r0_placeIn v_r0_letterOf v_r0_told v_r0_kept v_r0_imaged v_r0_hasImage (.ref a_r0_turnOf) v_r0_turns0 v_r0_turned v_r0_order0 v_r0_likely0 v_r0_leftThen v_r0_row v_r0_rowMany v_r0_seed q_3.1 q_4.1 x2 e_21.1 q_2.1 e_10.2.1 e_10.2.2.1 e_10.2.2.2.1 e_21.2.1 e_21.2.2.1 e_21.2.2.2 e_5.2.2) H locs → lv_has ls 4 [] → W p l e (rmd 1) s m ([.ref a_r0, .ref a_r0_turnOf, .int x2] : List Value).toArray below meth c H locs 0 0 Q (F0 m 188 ls []) := by
        intro e_21 hE H locs ls hW hl
        subst hE; have hr := hk_21
        obtain rfl := Option.some.inj hr
        rw [hQ]; exact k_vret C hret hW d_M_carryAll_188
      have hl_21 : ∀ (k : Nat) (y3_21 : Int32) (r0_place0_21 : Int32) (r0_left0_21 : Nat → Int32) (r0_turnOf_21 : Nat → Int32) (r0_wants0_21 : Nat → Int32), wh (fun (s : (Int32) × (Int32) × (Nat → Int32) × (Nat → Int32) × (Nat → Int32)) => F_M_carryAll_turnOf_L145 x2 s.1 s.2.1 s.2.2.1 s.2.2.2.1 s.2.2.2.2) k (y3_21, r0_place0_21, r0_left0_21, r0_turnOf_21, r0_wants0_21) = some ex_21 → ∀ (H : Heap) (locs : List Loc) (ls : Array Slot), wd A s.heap D (w_M_carryAll_turnOf cI a_r0 a_r0_figures a_r0_hampers a_r0_kinds a_r0_left0 a_r0_turnOf a_r0_wants0 a_r0_weights v_r0_thrown v_r0_refusals v_r0_letters v_r0_letterMany v_r0_at v_r0_isBad v_r0_statements v_r0_placeIn v_r0_letterOf v_r0_told v_r0_kept v_r0_imaged v_r0_hasImage (.ref a_r0_turnOf) v_r0_turns0 v_r0_turned v_r0_order0 v_r0_likely0 v_r0_leftThen v_r0_row v_r0_rowMany v_r0_seed q_3.1 q_4.1 x2 r0_place0_21 q_2.1 e_10.2.1 e_10.2.2.1 e_10.2.2.2.1 r0_left0_21 r0_turnOf_21 r0_wants0_21 e_5.2.2) H locs → lv_has ls 4 [(0, .ref a_r0), (3, .int y3_21)] → W p l e (rmd 1) s m ([.ref a_r0, .ref a_r0_turnOf, .int x2] : List Value).toArray below meth c H locs 0 0 Q (F0 m 145 ls []) := by
        intro k
        induction k with
        | zero => intro y3_21 r0_place0_21 r0_left0_21 r0_turnOf_21 r0_wants0_21 hw; exact absurd hw wh_0
        | succ k ih_21 =>
          intro y3_21 r0_place0_21 r0_left0_21 r0_turnOf_21 r0_wants0_21 hw H locs ls hW hl
          obtain ⟨z_21, hr, hz1_21, hz2_21⟩ := wh_s hw
          have hr : F_M_carryAll_turnOf_L145 x2 y3_21 r0_place0_21 r0_left0_21 r0_turnOf_21 r0_wants0_21 = some z_21 := hr
          unfold F_M_carryAll_turnOf_L145 at hr
          refine lv_iload_n hx hb d_M_carryAll_145 rfl (lv_at hl 1 rfl) ?_
          refine lv_iconst (v := 4) hx hb d_M_carryAll_146 (by decide) ?_
          refine lv_icmp_ge (tgt := 188) hx hb d_M_carryAll_147 (by decide) (fun c_22 => ?_) (fun c_22 => ?_)
          · replace hr := ip c_22 hr
            exact hx_21 _ (hz2_21 _ (Option.some.inj hr).symm) _ _ _ hW (lv_sub hl [] rfl)
          · replace hr := iN c_22 hr
            refine lv_aload_n hx hb d_M_carryAll_150 rfl (lv_at hl 0 rfl) ?_
            refine k_get i_M C hW 0 rfl rfl 6 (by decide) qf_M_22 rfl rfl d_M_carryAll_151 ?_
            refine lv_iload_n hx hb d_M_carryAll_154 rfl (lv_at hl 1 rfl) ?_
            refine lv_aload_n hx hb d_M_carryAll_155 rfl (lv_at hl 0 rfl) ?_
            refine lv_aload_n hx hb d_M_carryAll_156 rfl (lv_at hl 0 rfl) ?_
            refine k_get i_M C hW 0 rfl rfl 6 (by decide) qf_M_22 rfl rfl d_M_carryAll_157 ?_
            refine lv_iload_n hx hb d_M_carryAll_160 rfl (lv_at hl 1 rfl) ?_
            obtain ⟨h_23, hr⟩ := ck_some hr
            refine k_iald C hW 6 rfl h_23 d_M_carryAll_161 ?_
            obtain ⟨q_24, hc_24, hr⟩ := ob hr
            have ct_24 := C_M_carry_turnOf l D cI cS a_r0 a_r0_turnOf (Value.ref a_r0_weights) (Value.int q_2.1) (Value.ref a_r0_kinds) (Value.ref a_r0_figures) (Value.int q_3.1) (Value.ref a_r0_hampers) (Value.ref a_r0_wants0) (Value.ref a_r0_left0) (Value.int q_4.1) v_r0_thrown v_r0_refusals v_r0_letters v_r0_letterMany v_r0_at v_r0_isBad v_r0_statements v_r0_placeIn v_r0_letterOf v_r0_told v_r0_kept v_r0_imaged v_r0_hasImage v_r0_turns0 v_r0_turned v_r0_order0 v_r0_likely0 v_r0_leftThen v_r0_row v_r0_rowMany v_r0_seed x2 r0_place0_21 r0_turnOf_21 (r0_wants0_21 (Int32.toNatClampNeg y3_21)) q_24 hc_24
            refine k_goI hA hW [0, 5] rfl ct_24.1 (ws' := (w_M_carryAll_turnOf cI a_r0 a_r0_figures a_r0_hampers a_r0_kinds a_r0_left0 a_r0_turnOf a_r0_wants0 a_r0_weights v_r0_thrown v_r0_refusals v_r0_letters v_r0_letterMany v_r0_at v_r0_isBad v_r0_statements v_r0_placeIn v_r0_letterOf v_r0_told v_r0_kept v_r0_imaged v_r0_hasImage (.ref a_r0_turnOf) v_r0_turns0 v_r0_turned v_r0_order0 v_r0_likely0 v_r0_leftThen v_r0_row v_r0_rowMany v_r0_seed q_3.1 q_4.1 x2 q_24.2.1 q_2.1 e_10.2.1 e_10.2.2.1 e_10.2.2.2.1 r0_left0_21 q_24.2.2 r0_wants0_21 e_5.2.2)) rfl (k_runV C hA hW mw_M_carry mv_M_carry (ct_24.2 _) [0, 5] rfl rfl 0 rfl rfl qm_M_186 ⟨Nat.le_of_ble_eq_true rfl, Nat.le_of_ble_eq_true rfl, Nat.zero_le _, Nat.zero_le _⟩ rfl rfl (Nat.le_of_ble_eq_true rfl) hl.1 d_M_carryAll_162) (fun H locs hW => ?_)
            obtain ⟨h_25, hr⟩ := ck_some hr
            refine k_iast C hW 6 rfl h_25 (ws' := (w_M_carryAll_turnOf cI a_r0 a_r0_figures a_r0_hampers a_r0_kinds a_r0_left0 a_r0_turnOf a_r0_wants0 a_r0_weights v_r0_thrown v_r0_refusals v_r0_letters v_r0_letterMany v_r0_at v_r0_isBad v_r0_statements v_r0_placeIn v_r0_letterOf v_r0_told v_r0_kept v_r0_imaged v_r0_hasImage (.ref a_r0_turnOf) v_r0_turns0 v_r0_turned v_r0_order0 v_r0_likely0 v_r0_leftThen v_r0_row v_r0_rowMany v_r0_seed q_3.1 q_4.1 x2 q_24.2.1 q_2.1 e_10.2.1 e_10.2.2.1 e_10.2.2.2.1 r0_left0_21 q_24.2.2 (upd r0_wants0_21 (Int32.toNatClampNeg y3_21) q_24.1) e_5.2.2)) rfl d_M_carryAll_165 (fun H locs hW => ?_)
            refine lv_aload_n hx hb d_M_carryAll_166 rfl (lv_at hl 0 rfl) ?_
            refine k_get i_M C hW 0 rfl rfl 7 (by decide) qf_M_25 rfl rfl d_M_carryAll_167 ?_
            refine lv_iload_n hx hb d_M_carryAll_170 rfl (lv_at hl 1 rfl) ?_
            refine lv_aload_n hx hb d_M_carryAll_171 rfl (lv_at hl 0 rfl) ?_
            refine lv_aload_n hx hb d_M_carryAll_172 rfl (lv_at hl 0 rfl) ?_
            refine k_get i_M C hW 0 rfl rfl 7 (by decide) qf_M_25 rfl rfl d_M_carryAll_173 ?_
            refine lv_iload_n hx hb d_M_carryAll_176 rfl (lv_at hl 1 rfl) ?_
            obtain ⟨h_26, hr⟩ := ck_some hr
            refine k_iald C hW 4 rfl h_26 d_M_carryAll_177 ?_
            obtain ⟨q_27, hc_27, hr⟩ := ob hr
            have ct_27 := C_M_carry_turnOf l D cI cS a_r0 a_r0_turnOf (Value.ref a_r0_weights) (Value.int q_2.1) (Value.ref a_r0_kinds) (Value.ref a_r0_figures) (Value.int q_3.1) (Value.ref a_r0_hampers) (Value.ref a_r0_wants0) (Value.ref a_r0_left0) (Value.int q_4.1) v_r0_thrown v_r0_refusals v_r0_letters v_r0_letterMany v_r0_at v_r0_isBad v_r0_statements v_r0_placeIn v_r0_letterOf v_r0_told v_r0_kept v_r0_imaged v_r0_hasImage v_r0_turns0 v_r0_turned v_r0_order0 v_r0_likely0 v_r0_leftThen v_r0_row v_r0_rowMany v_r0_seed x2 q_24.2.1 q_24.2.2 (r0_left0_21 (Int32.toNatClampNeg y3_21)) q_27 hc_27
            refine k_goI hA hW [0, 5] rfl ct_27.1 (ws' := (w_M_carryAll_turnOf cI a_r0 a_r0_figures a_r0_hampers a_r0_kinds a_r0_left0 a_r0_turnOf a_r0_wants0 a_r0_weights v_r0_thrown v_r0_refusals v_r0_letters v_r0_letterMany v_r0_at v_r0_isBad v_r0_statements v_r0_placeIn v_r0_letterOf v_r0_told v_r0_kept v_r0_imaged v_r0_hasImage (.ref a_r0_turnOf) v_r0_turns0 v_r0_turned v_r0_order0 v_r0_likely0 v_r0_leftThen v_r0_row v_r0_rowMany v_r0_seed q_3.1 q_4.1 x2 q_27.2.1 q_2.1 e_10.2.1 e_10.2.2.1 e_10.2.2.2.1 r0_left0_21 q_27.2.2 (upd r0_wants0_21 (Int32.toNatClampNeg y3_21) q_24.1) e_5.2.2)) rfl (k_runV C hA hW mw_M_carry mv_M_carry (ct_27.2 _) [0, 5] rfl rfl 0 rfl rfl qm_M_186 ⟨Nat.le_of_ble_eq_true rfl, Nat.le_of_ble_eq_true rfl, Nat.zero_le _, Nat.zero_le _⟩ rfl rfl (Nat.le_of_ble_eq_true rfl) hl.1 d_M_carryAll_178) (fun H locs hW => ?_)
            obtain ⟨h_28, hr⟩ := ck_some hr
            refine k_iast C hW 4 rfl h_28 (ws' := (w_M_carryAll_turnOf cI a_r0 a_r0_figures a_r0_hampers a_r0_kinds a_r0_left0 a_r0_turnOf a_r0_wants0 a_r0_weights v_r0_thrown v_r0_refusals v_r0_letters v_r0_letterMany v_r0_at v_r0_isBad v_r0_statements v_r0_placeIn v_r0_letterOf v_r0_told v_r0_kept v_r0_imaged v_r0_hasImage (.ref a_r0_turnOf) v_r0_turns0 v_r0_turned v_r0_order0 v_r0_likely0 v_r0_leftThen v_r0_row v_r0_rowMany v_r0_seed q_3.1 q_4.1 x2 q_27.2.1 q_2.1 e_10.2.1 e_10.2.2.1 e_10.2.2.2.1 (upd r0_left0_21 (Int32.toNatClampNeg y3_21) q_27.1) q_27.2.2 (upd r0_wants0_21 (Int32.toNatClampNeg y3_21) q_24.1) e_5.2.2)) rfl d_M_carryAll_181 (fun H locs hW => ?_)
            refine lv_iinc (v := (y3_21 + 1)) (lv' := [(3, .int (y3_21 + 1)), (0, .ref a_r0)]) hx hb d_M_carryAll_182 hl (k := 1) rfl rfl (by decide) rfl (fun ls hl => ?_)
            refine lv_goto (tgt := 145) hx hb d_M_carryAll_185 (by decide) ?_
            exact ih_21 (y3_21 + 1) q_27.2.1 (upd r0_left0_21 (Int32.toNatClampNeg y3_21) q_27.1) q_27.2.2 (upd r0_wants0_21 (Int32.toNatClampNeg y3_21) q_24.1) (hz1_21 _ (Option.some.inj hr).symm) _ _ _ hW (lv_sub hl [1, 0] rfl)
      exact hl_21 _ 0 e_10.1 r0_left0 e_10.2.2.2.2 r0_wants0 hw_21 _ _ _ hW (lv_sub hl [1, 0] rfl)
    have hl_10 : ∀ (k : Nat) (y3_10 : Int32) (r0_place0_10 : Int32) (r0_figures_10 : Nat → Int32) (r0_hampers_10 : Nat → Int32) (r0_kinds_10 : Nat → Int32) (r0_turnOf_10 : Nat → Int32), wh (fun (s : (Int32) × (Int32) × (Nat → Int32) × (Nat → Int32) × (Nat → Int32) × (Nat → Int32)) => F_M_carryAll_turnOf_L83 x2 s.1 s.2.1 s.2.2.1 s.2.2.2.1 s.2.2.2.2.1 s.2.2.2.2.2) k (y3_10, r0_place0_10, r0_figures_10, r0_hampers_10, r0_kinds_10, r0_turnOf_10) = some ex_10 → ∀ (H : Heap) (locs : List Loc) (ls : Array Slot), wd A s.heap D (w_M_carryAll_turnOf cI a_r0 a_r0_figures a_r0_hampers a_r0_kinds a_r0_left0 a_r0_turnOf a_r0_wants0 a_r0_weights v_r0_thrown v_r0_refusals v_r0_letters v_r0_letterMany v_r0_at v_r0_isBad v_r0_statements v_r0_placeIn v_r0_letterOf v_r0_told v_r0_kept v_r0_imaged v_r0_hasImage (.ref a_r0_turnOf) v_r0_turns0 v_r0_turned v_r0_order0 v_r0_likely0 v_r0_leftThen v_r0_row v_r0_rowMany v_r0_seed q_3.1 q_4.1 x2 r0_place0_10 q_2.1 r0_figures_10 r0_hampers_10 r0_kinds_10 r0_left0 r0_turnOf_10 r0_wants0 e_5.2.2) H locs → lv_has ls 4 [(0, .ref a_r0), (3, .int y3_10)] → W p l e (rmd 1) s m ([.ref a_r0, .ref a_r0_turnOf, .int x2] : List Value).toArray below meth c H locs 0 0 Q (F0 m 83 ls []) := by
      intro k
      induction k with
      | zero => intro y3_10 r0_place0_10 r0_figures_10 r0_hampers_10 r0_kinds_10 r0_turnOf_10 hw; exact absurd hw wh_0
      | succ k ih_10 =>
        intro y3_10 r0_place0_10 r0_figures_10 r0_hampers_10 r0_kinds_10 r0_turnOf_10 hw H locs ls hW hl
        obtain ⟨z_10, hr, hz1_10, hz2_10⟩ := wh_s hw
        have hr : F_M_carryAll_turnOf_L83 x2 y3_10 r0_place0_10 r0_figures_10 r0_hampers_10 r0_kinds_10 r0_turnOf_10 = some z_10 := hr
        unfold F_M_carryAll_turnOf_L83 at hr
        refine lv_iload_n hx hb d_M_carryAll_83 rfl (lv_at hl 1 rfl) ?_
        refine lv_bipush (v := 8) hx hb d_M_carryAll_84 (by decide) ?_
        refine lv_icmp_ge (tgt := 143) hx hb d_M_carryAll_86 (by decide) (fun c_11 => ?_) (fun c_11 => ?_)
        · replace hr := ip c_11 hr
          exact hx_10 _ (hz2_10 _ (Option.some.inj hr).symm) _ _ _ hW (lv_sub hl [0] rfl)
        · replace hr := iN c_11 hr
          refine lv_aload_n hx hb d_M_carryAll_89 rfl (lv_at hl 0 rfl) ?_
          refine k_get i_M C hW 0 rfl rfl 2 (by decide) qf_M_13 rfl rfl d_M_carryAll_90 ?_
          refine lv_iload_n hx hb d_M_carryAll_93 rfl (lv_at hl 1 rfl) ?_
          refine lv_aload_n hx hb d_M_carryAll_94 rfl (lv_at hl 0 rfl) ?_
          refine lv_aload_n hx hb d_M_carryAll_95 rfl (lv_at hl 0 rfl) ?_
          refine k_get i_M C hW 0 rfl rfl 2 (by decide) qf_M_13 rfl rfl d_M_carryAll_96 ?_
          refine lv_iload_n hx hb d_M_carryAll_99 rfl (lv_at hl 1 rfl) ?_
          obtain ⟨h_12, hr⟩ := ck_some hr
          refine k_iald C hW 3 rfl h_12 d_M_carryAll_100 ?_
          obtain ⟨q_13, hc_13, hr⟩ := ob hr
          have ct_13 := C_M_carry_turnOf l D cI cS a_r0 a_r0_turnOf (Value.ref a_r0_weights) (Value.int q_2.1) (Value.ref a_r0_kinds) (Value.ref a_r0_figures) (Value.int q_3.1) (Value.ref a_r0_hampers) (Value.ref a_r0_wants0) (Value.ref a_r0_left0) (Value.int q_4.1) v_r0_thrown v_r0_refusals v_r0_letters v_r0_letterMany v_r0_at v_r0_isBad v_r0_statements v_r0_placeIn v_r0_letterOf v_r0_told v_r0_kept v_r0_imaged v_r0_hasImage v_r0_turns0 v_r0_turned v_r0_order0 v_r0_likely0 v_r0_leftThen v_r0_row v_r0_rowMany v_r0_seed x2 r0_place0_10 r0_turnOf_10 (r0_kinds_10 (Int32.toNatClampNeg y3_10)) q_13 hc_13
          refine k_goI hA hW [0, 5] rfl ct_13.1 (ws' := (w_M_carryAll_turnOf cI a_r0 a_r0_figures a_r0_hampers a_r0_kinds a_r0_left0 a_r0_turnOf a_r0_wants0 a_r0_weights v_r0_thrown v_r0_refusals v_r0_letters v_r0_letterMany v_r0_at v_r0_isBad v_r0_statements v_r0_placeIn v_r0_letterOf v_r0_told v_r0_kept v_r0_imaged v_r0_hasImage (.ref a_r0_turnOf) v_r0_turns0 v_r0_turned v_r0_order0 v_r0_likely0 v_r0_leftThen v_r0_row v_r0_rowMany v_r0_seed q_3.1 q_4.1 x2 q_13.2.1 q_2.1 r0_figures_10 r0_hampers_10 r0_kinds_10 r0_left0 q_13.2.2 r0_wants0 e_5.2.2)) rfl (k_runV C hA hW mw_M_carry mv_M_carry (ct_13.2 _) [0, 5] rfl rfl 0 rfl rfl qm_M_186 ⟨Nat.le_of_ble_eq_true rfl, Nat.le_of_ble_eq_true rfl, Nat.zero_le _, Nat.zero_le _⟩ rfl rfl (Nat.le_of_ble_eq_true rfl) hl.1 d_M_carryAll_101) (fun H locs hW => ?_)
          obtain ⟨h_14, hr⟩ := ck_some hr
          refine k_iast C hW 3 rfl h_14 (ws' := (w_M_carryAll_turnOf cI a_r0 a_r0_figures a_r0_hampers a_r0_kinds a_r0_left0 a_r0_turnOf a_r0_wants0 a_r0_weights v_r0_thrown v_r0_refusals v_r0_letters v_r0_letterMany v_r0_at v_r0_isBad v_r0_statements v_r0_placeIn v_r0_letterOf v_r0_told v_r0_kept v_r0_imaged v_r0_hasImage (.ref a_r0_turnOf) v_r0_turns0 v_r0_turned v_r0_order0 v_r0_likely0 v_r0_leftThen v_r0_row v_r0_rowMany v_r0_seed q_3.1 q_4.1 x2 q_13.2.1 q_2.1 r0_figures_10 r0_hampers_10 (upd r0_kinds_10 (Int32.toNatClampNeg y3_10) q_13.1) r0_left0 q_13.2.2 r0_wants0 e_5.2.2)) rfl d_M_carryAll_104 (fun H locs hW => ?_)
          refine lv_aload_n hx hb d_M_carryAll_105 rfl (lv_at hl 0 rfl) ?_
          refine k_get i_M C hW 0 rfl rfl 3 (by decide) qf_M_16 rfl rfl d_M_carryAll_106 ?_
          refine lv_iload_n hx hb d_M_carryAll_109 rfl (lv_at hl 1 rfl) ?_
          refine lv_aload_n hx hb d_M_carryAll_110 rfl (lv_at hl 0 rfl) ?_
          refine lv_aload_n hx hb d_M_carryAll_111 rfl (lv_at hl 0 rfl) ?_
          refine k_get i_M C hW 0 rfl rfl 3 (by decide) qf_M_16 rfl rfl d_M_carryAll_112 ?_
          refine lv_iload_n hx hb d_M_carryAll_115 rfl (lv_at hl 1 rfl) ?_
          obtain ⟨h_15, hr⟩ := ck_some hr
          refine k_iald C hW 1 rfl h_15 d_M_carryAll_116 ?_
          obtain ⟨q_16, hc_16, hr⟩ := ob hr
          have ct_16 := C_M_carry_turnOf l D cI cS a_r0 a_r0_turnOf (Value.ref a_r0_weights) (Value.int q_2.1) (Value.ref a_r0_kinds) (Value.ref a_r0_figures) (Value.int q_3.1) (Value.ref a_r0_hampers) (Value.ref a_r0_wants0) (Value.ref a_r0_left0) (Value.int q_4.1) v_r0_thrown v_r0_refusals v_r0_letters v_r0_letterMany v_r0_at v_r0_isBad v_r0_statements v_r0_placeIn v_r0_letterOf v_r0_told v_r0_kept v_r0_imaged v_r0_hasImage v_r0_turns0 v_r0_turned v_r0_order0 v_r0_likely0 v_r0_leftThen v_r0_row v_r0_rowMany v_r0_seed x2 q_13.2.1 q_13.2.2 (r0_figures_10 (Int32.toNatClampNeg y3_10)) q_16 hc_16
          refine k_goI hA hW [0, 5] rfl ct_16.1 (ws' := (w_M_carryAll_turnOf cI a_r0 a_r0_figures a_r0_hampers a_r0_kinds a_r0_left0 a_r0_turnOf a_r0_wants0 a_r0_weights v_r0_thrown v_r0_refusals v_r0_letters v_r0_letterMany v_r0_at v_r0_isBad v_r0_statements v_r0_placeIn v_r0_letterOf v_r0_told v_r0_kept v_r0_imaged v_r0_hasImage (.ref a_r0_turnOf) v_r0_turns0 v_r0_turned v_r0_order0 v_r0_likely0 v_r0_leftThen v_r0_row v_r0_rowMany v_r0_seed q_3.1 q_4.1 x2 q_16.2.1 q_2.1 r0_figures_10 r0_hampers_10 (upd r0_kinds_10 (Int32.toNatClampNeg y3_10) q_13.1) r0_left0 q_16.2.2 r0_wants0 e_5.2.2)) rfl (k_runV C hA hW mw_M_carry mv_M_carry (ct_16.2 _) [0, 5] rfl rfl 0 rfl rfl qm_M_186 ⟨Nat.le_of_ble_eq_true rfl, Nat.le_of_ble_eq_true rfl, Nat.zero_le _, Nat.zero_le _⟩ rfl rfl (Nat.le_of_ble_eq_true rfl) hl.1 d_M_carryAll_117) (fun H locs hW => ?_)
          obtain ⟨h_17, hr⟩ := ck_some hr
          refine k_iast C hW 1 rfl h_17 (ws' := (w_M_carryAll_turnOf cI a_r0 a_r0_figures a_r0_hampers a_r0_kinds a_r0_left0 a_r0_turnOf a_r0_wants0 a_r0_weights v_r0_thrown v_r0_refusals v_r0_letters v_r0_letterMany v_r0_at v_r0_isBad v_r0_statements v_r0_placeIn v_r0_letterOf v_r0_told v_r0_kept v_r0_imaged v_r0_hasImage (.ref a_r0_turnOf) v_r0_turns0 v_r0_turned v_r0_order0 v_r0_likely0 v_r0_leftThen v_r0_row v_r0_rowMany v_r0_seed q_3.1 q_4.1 x2 q_16.2.1 q_2.1 (upd r0_figures_10 (Int32.toNatClampNeg y3_10) q_16.1) r0_hampers_10 (upd r0_kinds_10 (Int32.toNatClampNeg y3_10) q_13.1) r0_left0 q_16.2.2 r0_wants0 e_5.2.2)) rfl d_M_carryAll_120 (fun H locs hW => ?_)
          refine lv_aload_n hx hb d_M_carryAll_121 rfl (lv_at hl 0 rfl) ?_
          refine k_get i_M C hW 0 rfl rfl 5 (by decide) qf_M_19 rfl rfl d_M_carryAll_122 ?_
          refine lv_iload_n hx hb d_M_carryAll_125 rfl (lv_at hl 1 rfl) ?_
          refine lv_aload_n hx hb d_M_carryAll_126 rfl (lv_at hl 0 rfl) ?_
          refine lv_aload_n hx hb d_M_carryAll_127 rfl (lv_at hl 0 rfl) ?_
          refine k_get i_M C hW 0 rfl rfl 5 (by decide) qf_M_19 rfl rfl d_M_carryAll_128 ?_
          refine lv_iload_n hx hb d_M_carryAll_131 rfl (lv_at hl 1 rfl) ?_
          obtain ⟨h_18, hr⟩ := ck_some hr
          refine k_iald C hW 2 rfl h_18 d_M_carryAll_132 ?_
          obtain ⟨q_19, hc_19, hr⟩ := ob hr
          have ct_19 := C_M_carry_turnOf l D cI cS a_r0 a_r0_turnOf (Value.ref a_r0_weights) (Value.int q_2.1) (Value.ref a_r0_kinds) (Value.ref a_r0_figures) (Value.int q_3.1) (Value.ref a_r0_hampers) (Value.ref a_r0_wants0) (Value.ref a_r0_left0) (Value.int q_4.1) v_r0_thrown v_r0_refusals v_r0_letters v_r0_letterMany v_r0_at v_r0_isBad v_r0_statements v_r0_placeIn v_r0_letterOf v_r0_told v_r0_kept v_r0_imaged v_r0_hasImage v_r0_turns0 v_r0_turned v_r0_order0 v_r0_likely0 v_r0_leftThen v_r0_row v_r0_rowMany v_r0_seed x2 q_16.2.1 q_16.2.2 (r0_hampers_10 (Int32.toNatClampNeg y3_10)) q_19 hc_19
          refine k_goI hA hW [0, 5] rfl ct_19.1 (ws' := (w_M_carryAll_turnOf cI a_r0 a_r0_figures a_r0_hampers a_r0_kinds a_r0_left0 a_r0_turnOf a_r0_wants0 a_r0_weights v_r0_thrown v_r0_refusals v_r0_letters v_r0_letterMany v_r0_at v_r0_isBad v_r0_statements v_r0_placeIn v_r0_letterOf v_r0_told v_r0_kept v_r0_imaged v_r0_hasImage (.ref a_r0_turnOf) v_r0_turns0 v_r0_turned v_r0_order0 v_r0_likely0 v_r0_leftThen v_r0_row v_r0_rowMany v_r0_seed q_3.1 q_4.1 x2 q_19.2.1 q_2.1 (upd r0_figures_10 (Int32.toNatClampNeg y3_10) q_16.1) r0_hampers_10 (upd r0_kinds_10 (Int32.toNatClampNeg y3_10) q_13.1) r0_left0 q_19.2.2 r0_wants0 e_5.2.2)) rfl (k_runV C hA hW mw_M_carry mv_M_carry (ct_19.2 _) [0, 5] rfl rfl 0 rfl rfl qm_M_186 ⟨Nat.le_of_ble_eq_true rfl, Nat.le_of_ble_eq_true rfl, Nat.zero_le _, Nat.zero_le _⟩ rfl rfl (Nat.le_of_ble_eq_true rfl) hl.1 d_M_carryAll_133) (fun H locs hW => ?_)
          obtain ⟨h_20, hr⟩ := ck_some hr
          refine k_iast C hW 2 rfl h_20 (ws' := (w_M_carryAll_turnOf cI a_r0 a_r0_figures a_r0_hampers a_r0_kinds a_r0_left0 a_r0_turnOf a_r0_wants0 a_r0_weights v_r0_thrown v_r0_refusals v_r0_letters v_r0_letterMany v_r0_at v_r0_isBad v_r0_statements v_r0_placeIn v_r0_letterOf v_r0_told v_r0_kept v_r0_imaged v_r0_hasImage (.ref a_r0_turnOf) v_r0_turns0 v_r0_turned v_r0_order0 v_r0_likely0 v_r0_leftThen v_r0_row v_r0_rowMany v_r0_seed q_3.1 q_4.1 x2 q_19.2.1 q_2.1 (upd r0_figures_10 (Int32.toNatClampNeg y3_10) q_16.1) (upd r0_hampers_10 (Int32.toNatClampNeg y3_10) q_19.1) (upd r0_kinds_10 (Int32.toNatClampNeg y3_10) q_13.1) r0_left0 q_19.2.2 r0_wants0 e_5.2.2)) rfl d_M_carryAll_136 (fun H locs hW => ?_)
          refine lv_iinc (v := (y3_10 + 1)) (lv' := [(3, .int (y3_10 + 1)), (0, .ref a_r0)]) hx hb d_M_carryAll_137 hl (k := 1) rfl rfl (by decide) rfl (fun ls hl => ?_)
          refine lv_goto (tgt := 83) hx hb d_M_carryAll_140 (by decide) ?_
          exact ih_10 (y3_10 + 1) q_19.2.1 (upd r0_figures_10 (Int32.toNatClampNeg y3_10) q_16.1) (upd r0_hampers_10 (Int32.toNatClampNeg y3_10) q_19.1) (upd r0_kinds_10 (Int32.toNatClampNeg y3_10) q_13.1) q_19.2.2 (hz1_10 _ (Option.some.inj hr).symm) _ _ _ hW (lv_sub hl [1, 0] rfl)
    exact hl_10 _ 0 e_5.1 r0_figures r0_hampers r0_kinds e_5.2.1 hw_10 _ _ _ hW (lv_sub hl [1, 0] rfl)
  have hl_5 : ∀ (k : Nat) (y3_5 : Int32) (r0_place0_5 : Int32) (r0_turnOf_5 : Nat → Int32) (r0_weights_5 : Nat → Int32), wh (fun (s : (Int32) × (Int32) × (Nat → Int32) × (Nat → Int32)) => F_M_carryAll_turnOf_L53 x2 s.1 s.2.1 s.2.2.1 s.2.2.2) k (y3_5, r0_place0_5, r0_turnOf_5, r0_weights_5) = some ex_5 → ∀ (H : Heap) (locs : List Loc) (ls : Array Slot), wd A s.heap D (w_M_carryAll_turnOf cI a_r0 a_r0_figures a_r0_hampers a_r0_kinds a_r0_left0 a_r0_turnOf a_r0_wants0 a_r0_weights v_r0_thrown v_r0_refusals v_r0_letters v_r0_letterMany v_r0_at v_r0_isBad v_r0_statements v_r0_placeIn v_r0_letterOf v_r0_told v_r0_kept v_r0_imaged v_r0_hasImage (.ref a_r0_turnOf) v_r0_turns0 v_r0_turned v_r0_order0 v_r0_likely0 v_r0_leftThen v_r0_row v_r0_rowMany v_r0_seed q_3.1 q_4.1 x2 r0_place0_5 q_2.1 r0_figures r0_hampers r0_kinds r0_left0 r0_turnOf_5 r0_wants0 r0_weights_5) H locs → lv_has ls 4 [(0, .ref a_r0), (3, .int y3_5)] → W p l e (rmd 1) s m ([.ref a_r0, .ref a_r0_turnOf, .int x2] : List Value).toArray below meth c H locs 0 0 Q (F0 m 53 ls []) := by
    intro k
    induction k with
    | zero => intro y3_5 r0_place0_5 r0_turnOf_5 r0_weights_5 hw; exact absurd hw wh_0
    | succ k ih_5 =>
      intro y3_5 r0_place0_5 r0_turnOf_5 r0_weights_5 hw H locs ls hW hl
      obtain ⟨z_5, hr, hz1_5, hz2_5⟩ := wh_s hw
      have hr : F_M_carryAll_turnOf_L53 x2 y3_5 r0_place0_5 r0_turnOf_5 r0_weights_5 = some z_5 := hr
      unfold F_M_carryAll_turnOf_L53 at hr
      refine lv_iload_n hx hb d_M_carryAll_53 rfl (lv_at hl 1 rfl) ?_
      refine lv_bipush (v := 6) hx hb d_M_carryAll_54 (by decide) ?_
      refine lv_icmp_ge (tgt := 81) hx hb d_M_carryAll_56 (by decide) (fun c_6 => ?_) (fun c_6 => ?_)
      · replace hr := ip c_6 hr
        exact hx_5 _ (hz2_5 _ (Option.some.inj hr).symm) _ _ _ hW (lv_sub hl [0] rfl)
      · replace hr := iN c_6 hr
        refine lv_aload_n hx hb d_M_carryAll_59 rfl (lv_at hl 0 rfl) ?_
        refine k_get i_M C hW 0 rfl rfl 0 (by decide) qf_M_7 rfl rfl d_M_carryAll_60 ?_
        refine lv_iload_n hx hb d_M_carryAll_63 rfl (lv_at hl 1 rfl) ?_
        refine lv_aload_n hx hb d_M_carryAll_64 rfl (lv_at hl 0 rfl) ?_
        refine lv_aload_n hx hb d_M_carryAll_65 rfl (lv_at hl 0 rfl) ?_
        refine k_get i_M C hW 0 rfl rfl 0 (by decide) qf_M_7 rfl rfl d_M_carryAll_66 ?_
        refine lv_iload_n hx hb d_M_carryAll_69 rfl (lv_at hl 1 rfl) ?_
        obtain ⟨h_7, hr⟩ := ck_some hr
        refine k_iald C hW 7 rfl h_7 d_M_carryAll_70 ?_
        obtain ⟨q_8, hc_8, hr⟩ := ob hr
        have ct_8 := C_M_carry_turnOf l D cI cS a_r0 a_r0_turnOf (Value.ref a_r0_weights) (Value.int q_2.1) (Value.ref a_r0_kinds) (Value.ref a_r0_figures) (Value.int q_3.1) (Value.ref a_r0_hampers) (Value.ref a_r0_wants0) (Value.ref a_r0_left0) (Value.int q_4.1) v_r0_thrown v_r0_refusals v_r0_letters v_r0_letterMany v_r0_at v_r0_isBad v_r0_statements v_r0_placeIn v_r0_letterOf v_r0_told v_r0_kept v_r0_imaged v_r0_hasImage v_r0_turns0 v_r0_turned v_r0_order0 v_r0_likely0 v_r0_leftThen v_r0_row v_r0_rowMany v_r0_seed x2 r0_place0_5 r0_turnOf_5 (r0_weights_5 (Int32.toNatClampNeg y3_5)) q_8 hc_8
        refine k_goI hA hW [0, 5] rfl ct_8.1 (ws' := (w_M_carryAll_turnOf cI a_r0 a_r0_figures a_r0_hampers a_r0_kinds a_r0_left0 a_r0_turnOf a_r0_wants0 a_r0_weights v_r0_thrown v_r0_refusals v_r0_letters v_r0_letterMany v_r0_at v_r0_isBad v_r0_statements v_r0_placeIn v_r0_letterOf v_r0_told v_r0_kept v_r0_imaged v_r0_hasImage (.ref a_r0_turnOf) v_r0_turns0 v_r0_turned v_r0_order0 v_r0_likely0 v_r0_leftThen v_r0_row v_r0_rowMany v_r0_seed q_3.1 q_4.1 x2 q_8.2.1 q_2.1 r0_figures r0_hampers r0_kinds r0_left0 q_8.2.2 r0_wants0 r0_weights_5)) rfl (k_runV C hA hW mw_M_carry mv_M_carry (ct_8.2 _) [0, 5] rfl rfl 0 rfl rfl qm_M_186 ⟨Nat.le_of_ble_eq_true rfl, Nat.le_of_ble_eq_true rfl, Nat.zero_le _, Nat.zero_le _⟩ rfl rfl (Nat.le_of_ble_eq_true rfl) hl.1 d_M_carryAll_71) (fun H locs hW => ?_)
        obtain ⟨h_9, hr⟩ := ck_some hr
        refine k_iast C hW 7 rfl h_9 (ws' := (w_M_carryAll_turnOf cI a_r0 a_r0_figures a_r0_hampers a_r0_kinds a_r0_left0 a_r0_turnOf a_r0_wants0 a_r0_weights v_r0_thrown v_r0_refusals v_r0_letters v_r0_letterMany v_r0_at v_r0_isBad v_r0_statements v_r0_placeIn v_r0_letterOf v_r0_told v_r0_kept v_r0_imaged v_r0_hasImage (.ref a_r0_turnOf) v_r0_turns0 v_r0_turned v_r0_order0 v_r0_likely0 v_r0_leftThen v_r0_row v_r0_rowMany v_r0_seed q_3.1 q_4.1 x2 q_8.2.1 q_2.1 r0_figures r0_hampers r0_kinds r0_left0 q_8.2.2 r0_wants0 (upd r0_weights_5 (Int32.toNatClampNeg y3_5) q_8.1))) rfl d_M_carryAll_74 (fun H locs hW => ?_)
        refine lv_iinc (v := (y3_5 + 1)) (lv' := [(3, .int (y3_5 + 1)), (0, .ref a_r0)]) hx hb d_M_carryAll_75 hl (k := 1) rfl rfl (by decide) rfl (fun ls hl => ?_)
        refine lv_goto (tgt := 53) hx hb d_M_carryAll_78 (by decide) ?_
        exact ih_5 (y3_5 + 1) q_8.2.1 q_8.2.2 (upd r0_weights_5 (Int32.toNatClampNeg y3_5) q_8.1) (hz1_5 _ (Option.some.inj hr).symm) _ _ _ hW (lv_sub hl [1, 0] rfl)
  exact hl_5 _ 0 q_4.2.1 q_4.2.2 r0_weights hw_5 _ _ _ hW (lv_sub hl [1, 0] rfl)
def w_M_refuse (cI : ClassId) (a_r0 : Nat) (a_r0_refusals : Nat) (v_r0_weights v_r0_things v_r0_kinds v_r0_figures v_r0_days v_r0_hampers v_r0_wants0 v_r0_left0 v_r0_done0 v_r0_thrown v_r0_letters v_r0_letterMany v_r0_at v_r0_isBad v_r0_statements v_r0_placeIn v_r0_letterOf v_r0_told v_r0_kept v_r0_imaged v_r0_hasImage v_r0_place0 v_r0_isTaking v_r0_keptIn v_r0_turns0 v_r0_turnOf v_r0_turned v_r0_order0 v_r0_likely0 v_r0_leftThen v_r0_row v_r0_rowMany v_r0_seed : Value) (r0_refusals : Nat → Int32) : va_W := [(a_r0, .inr (9, [v_r0_weights, v_r0_things, v_r0_kinds, v_r0_figures, v_r0_days, v_r0_hampers, v_r0_wants0, v_r0_left0, v_r0_done0, v_r0_thrown, .ref a_r0_refusals, v_r0_letters, v_r0_letterMany, v_r0_at, v_r0_isBad, v_r0_statements, v_r0_placeIn, v_r0_letterOf, v_r0_told, v_r0_kept, v_r0_imaged, v_r0_hasImage, v_r0_place0, v_r0_isTaking, v_r0_keptIn, v_r0_turns0, v_r0_turnOf, v_r0_turned, v_r0_order0, v_r0_likely0, v_r0_leftThen, v_r0_row, v_r0_rowMany, v_r0_seed])), (a_r0_refusals, .inl (cI, 7, .inl r0_refusals))]
def F_M_refuse (r0_refusals : Nat → Int32) (x1 : Int32) : Option (Int32 × (Nat → Int32)) :=
  (ck (-x1) 7 (ck (-x1) 7 (some (x1, (upd r0_refusals (Int32.toNatClampNeg (-x1)) ((r0_refusals (Int32.toNatClampNeg (-x1))) + 1))))))
set_option maxHeartbeats 4000000 in
set_option maxRecDepth 100000 in
theorem C_M_refuse (l : Launch) (D : va_G) (cI cS : ClassId) (a_r0 : Nat) (a_r0_refusals : Nat) (v_r0_weights v_r0_things v_r0_kinds v_r0_figures v_r0_days v_r0_hampers v_r0_wants0 v_r0_left0 v_r0_done0 v_r0_thrown v_r0_letters v_r0_letterMany v_r0_at v_r0_isBad v_r0_statements v_r0_placeIn v_r0_letterOf v_r0_told v_r0_kept v_r0_imaged v_r0_hasImage v_r0_place0 v_r0_isTaking v_r0_keptIn v_r0_turns0 v_r0_turnOf v_r0_turned v_r0_order0 v_r0_likely0 v_r0_leftThen v_r0_row v_r0_rowMany v_r0_seed : Value) (r0_refusals : Nat → Int32) (x1 : Int32) (o : Int32 × (Nat → Int32)) (hr : F_M_refuse r0_refusals x1 = some o) : ctI l y_M_refuse (Cond.code y_M_refuse b_M_refuse 2 (some FieldType.int)) (rmd 0) D (kTy cI cS) [.ref a_r0, .int x1] (w_M_refuse cI a_r0 a_r0_refusals v_r0_weights v_r0_things v_r0_kinds v_r0_figures v_r0_days v_r0_hampers v_r0_wants0 v_r0_left0 v_r0_done0 v_r0_thrown v_r0_letters v_r0_letterMany v_r0_at v_r0_isBad v_r0_statements v_r0_placeIn v_r0_letterOf v_r0_told v_r0_kept v_r0_imaged v_r0_hasImage v_r0_place0 v_r0_isTaking v_r0_keptIn v_r0_turns0 v_r0_turnOf v_r0_turned v_r0_order0 v_r0_likely0 v_r0_leftThen v_r0_row v_r0_rowMany v_r0_seed r0_refusals) (w_M_refuse cI a_r0 a_r0_refusals v_r0_weights v_r0_things v_r0_kinds v_r0_figures v_r0_days v_r0_hampers v_r0_wants0 v_r0_left0 v_r0_done0 v_r0_thrown v_r0_letters v_r0_letterMany v_r0_at v_r0_isBad v_r0_statements v_r0_placeIn v_r0_letterOf v_r0_told v_r0_kept v_r0_imaged v_r0_hasImage v_r0_place0 v_r0_isTaking v_r0_keptIn v_r0_turns0 v_r0_turnOf v_r0_turned v_r0_order0 v_r0_likely0 v_r0_leftThen v_r0_row v_r0_rowMany v_r0_seed o.2) o.1 := by
  unfold F_M_refuse at hr
  refine ⟨rfl, fun sz => ct_of (w0 := (w_M_refuse cI a_r0 a_r0_refusals v_r0_weights v_r0_things v_r0_kinds v_r0_figures v_r0_days v_r0_hampers v_r0_wants0 v_r0_left0 v_r0_done0 v_r0_thrown v_r0_letters v_r0_letterMany v_r0_at v_r0_isBad v_r0_statements v_r0_placeIn v_r0_letterOf v_r0_told v_r0_kept v_r0_imaged v_r0_hasImage v_r0_place0 v_r0_isTaking v_r0_keptIn v_r0_turns0 v_r0_turnOf v_r0_turned v_r0_order0 v_r0_likely0 v_r0_leftThen v_r0_row v_r0_rowMany v_r0_seed r0_refusals)) (Qc := fun A => qI D (w_M_refuse cI a_r0 a_r0_refusals v_r0_weights v_r0_things v_r0_kinds v_r0_figures v_r0_days v_r0_hampers v_r0_wants0 v_r0_left0 v_r0_done0 v_r0_thrown v_r0_letters v_r0_letterMany v_r0_at v_r0_isBad v_r0_statements v_r0_placeIn v_r0_letterOf v_r0_told v_r0_kept v_r0_imaged v_r0_hasImage v_r0_place0 v_r0_isTaking v_r0_keptIn v_r0_turns0 v_r0_turnOf v_r0_turned v_r0_order0 v_r0_likely0 v_r0_leftThen v_r0_row v_r0_rowMany v_r0_seed o.2) o.1 A) rfl (Nat.le_of_ble_eq_true rfl) ?_ sz⟩
  intro p e s m below meth c A hA C hret ls hl hW
  have C : cx p s m ([.ref a_r0, .int x1] : List Value).toArray meth c b_M_refuse 2 R_M D (kTy cI cS) (Cond.code y_M_refuse b_M_refuse 2 (some FieldType.int)) := C
  obtain ⟨hx, hb, hml, hown, hts, hK, hlk, hN⟩ := id C
  have hl : lv_has ls 2 [(0, .ref a_r0), (1, .int x1)] := hl
  obtain ⟨Q, hQ⟩ : ∃ Q, Q = MQ below (qI D (w_M_refuse cI a_r0 a_r0_refusals v_r0_weights v_r0_things v_r0_kinds v_r0_figures v_r0_days v_r0_hampers v_r0_wants0 v_r0_left0 v_r0_done0 v_r0_thrown v_r0_letters v_r0_letterMany v_r0_at v_r0_isBad v_r0_statements v_r0_placeIn v_r0_letterOf v_r0_told v_r0_kept v_r0_imaged v_r0_hasImage v_r0_place0 v_r0_isTaking v_r0_keptIn v_r0_turns0 v_r0_turnOf v_r0_turned v_r0_order0 v_r0_likely0 v_r0_leftThen v_r0_row v_r0_rowMany v_r0_seed o.2) o.1 A) ([.ref a_r0, .int x1] : List Value).toArray s 0 0 A := ⟨_, rfl⟩
  rw [← hQ]
  refine lv_aload_n hx hb d_M_refuse_0 rfl (lv_at hl 0 rfl) ?_
  refine k_get i_M C hW 0 rfl rfl 10 (by decide) qf_M_28 rfl rfl d_M_refuse_1 ?_
  refine lv_iload_n hx hb d_M_refuse_4 rfl (lv_at hl 1 rfl) ?_
  refine lv_ineg hx hb d_M_refuse_5 ?_
  refine lv_dup2_11 hx hb d_M_refuse_6 rfl rfl ?_
  obtain ⟨h_1, hr⟩ := ck_some hr
  refine k_iald C hW 1 rfl h_1 d_M_refuse_7 ?_
  refine lv_iconst (v := 1) hx hb d_M_refuse_8 (by decide) ?_
  refine lv_iadd hx hb d_M_refuse_9 ?_
  obtain ⟨h_2, hr⟩ := ck_some hr
  refine k_iast C hW 1 rfl h_2 (ws' := (w_M_refuse cI a_r0 a_r0_refusals v_r0_weights v_r0_things v_r0_kinds v_r0_figures v_r0_days v_r0_hampers v_r0_wants0 v_r0_left0 v_r0_done0 v_r0_thrown v_r0_letters v_r0_letterMany v_r0_at v_r0_isBad v_r0_statements v_r0_placeIn v_r0_letterOf v_r0_told v_r0_kept v_r0_imaged v_r0_hasImage v_r0_place0 v_r0_isTaking v_r0_keptIn v_r0_turns0 v_r0_turnOf v_r0_turned v_r0_order0 v_r0_likely0 v_r0_leftThen v_r0_row v_r0_rowMany v_r0_seed (upd r0_refusals (Int32.toNatClampNeg (-x1)) ((r0_refusals (Int32.toNatClampNeg (-x1))) + 1)))) rfl d_M_refuse_10 (fun H locs hW => ?_)
  refine lv_iload_n hx hb d_M_refuse_11 rfl (lv_at hl 1 rfl) ?_
  obtain rfl := Option.some.inj hr
  rw [hQ]; exact k_iret C hret hW d_M_refuse_12
def w_M_back (cI : ClassId) (a_r0 : Nat) (a_r0_figures : Nat) (a_r0_hampers : Nat) (a_r0_kinds : Nat) (a_r0_left0 : Nat) (a_r0_refusals : Nat) (a_r0_turnOf : Nat) (a_r0_turns0 : Nat) (a_r0_wants0 : Nat) (a_r0_weights : Nat) (v_r0_letters v_r0_letterMany v_r0_at v_r0_isBad v_r0_statements v_r0_placeIn v_r0_letterOf v_r0_told v_r0_kept v_r0_imaged v_r0_hasImage v_r0_order0 v_r0_likely0 v_r0_leftThen v_r0_row v_r0_rowMany v_r0_seed : Value) (kv : Int32 → Value) (r0_days : Int32) (r0_done0 : Int32) (r0_isTaking : Int32) (r0_keptIn : Int32) (r0_place0 : Int32) (r0_things : Int32) (r0_thrown : Int32) (r0_turned : Int32) (r0_figures : Nat → Int32) (r0_hampers : Nat → Int32) (r0_kinds : Nat → Int32) (r0_left0 : Nat → Int32) (r0_refusals : Nat → Int32) (r0_turnOf : Nat → Int32) (r0_turns0 : Nat → Int32) (r0_wants0 : Nat → Int32) (r0_weights : Nat → Int32) : va_W := [(a_r0, .inr (9, [.ref a_r0_weights, .int r0_things, .ref a_r0_kinds, .ref a_r0_figures, .int r0_days, .ref a_r0_hampers, .ref a_r0_wants0, .ref a_r0_left0, .int r0_done0, .int r0_thrown, .ref a_r0_refusals, v_r0_letters, v_r0_letterMany, v_r0_at, v_r0_isBad, v_r0_statements, v_r0_placeIn, v_r0_letterOf, v_r0_told, v_r0_kept, v_r0_imaged, v_r0_hasImage, .int r0_place0, .int r0_isTaking, (kv r0_keptIn), .ref a_r0_turns0, .ref a_r0_turnOf, .int r0_turned, v_r0_order0, v_r0_likely0, v_r0_leftThen, v_r0_row, v_r0_rowMany, v_r0_seed])), (a_r0_figures, .inl (cI, 8, .inl r0_figures)), (a_r0_hampers, .inl (cI, 8, .inl r0_hampers)), (a_r0_kinds, .inl (cI, 8, .inl r0_kinds)), (a_r0_left0, .inl (cI, 4, .inl r0_left0)), (a_r0_refusals, .inl (cI, 7, .inl r0_refusals)), (a_r0_turnOf, .inl (cI, 41, .inl r0_turnOf)), (a_r0_turns0, .inl (cI, 328, .inl r0_turns0)), (a_r0_wants0, .inl (cI, 4, .inl r0_wants0)), (a_r0_weights, .inl (cI, 6, .inl r0_weights))]
def F_M_back_L31 (r0_turned : Int32) (r0_turns0 : Nat → Int32) (y1_2 : Int32) (r0_turnOf_2 : Nat → Int32) : Option (((Int32) × (Nat → Int32)) ⊕ ((Nat → Int32))) :=
  (if (41 : Int32) ≤ y1_2 then (some (.inr r0_turnOf_2)) else (ck (((41 : Int32) * (r0_turned - 1)) + y1_2) 328 (ck y1_2 41 (some (.inl ((y1_2 + 1), (upd r0_turnOf_2 (Int32.toNatClampNeg y1_2) (r0_turns0 (Int32.toNatClampNeg (((41 : Int32) * (r0_turned - 1)) + y1_2))))))))))
def F_M_back (r0_days : Int32) (r0_done0 : Int32) (r0_isTaking : Int32) (r0_keptIn : Int32) (r0_place0 : Int32) (r0_things : Int32) (r0_turned : Int32) (r0_figures : Nat → Int32) (r0_hampers : Nat → Int32) (r0_kinds : Nat → Int32) (r0_left0 : Nat → Int32) (r0_refusals : Nat → Int32) (r0_turnOf : Nat → Int32) (r0_turns0 : Nat → Int32) (r0_wants0 : Nat → Int32) (r0_weights : Nat → Int32) : Option (Int32 × (Int32) × (Int32) × (Int32) × (Int32) × (Int32) × (Int32) × (Int32) × (Int32) × (Nat → Int32) × (Nat → Int32) × (Nat → Int32) × (Nat → Int32) × (Nat → Int32) × (Nat → Int32) × (Nat → Int32) × (Nat → Int32)) :=
  (if r0_turned = 0 then ((F_M_refuse r0_refusals ((-3) : Int32)).bind (fun q_7 => (some (q_7.1, r0_days, r0_done0, r0_isTaking, r0_keptIn, r0_place0, r0_things, 0, r0_turned, r0_figures, r0_hampers, r0_kinds, r0_left0, q_7.2, r0_turnOf, r0_wants0, r0_weights)))) else ((wh (fun (s : (Int32) × (Nat → Int32)) => F_M_back_L31 r0_turned r0_turns0 s.1 s.2) 400 ((0 : Int32), r0_turnOf)).bind (fun e_2 => ((F_M_carryAll_turnOf r0_days r0_done0 r0_things r0_figures r0_hampers r0_kinds r0_left0 e_2 r0_wants0 r0_weights (0 : Int32)).bind (fun q_6 => (some ((r0_turned - 1), q_6.1, q_6.2.1, q_6.2.2.1, 3, q_6.2.2.2.1, q_6.2.2.2.2.1, 0, (r0_turned - 1), q_6.2.2.2.2.2.1, q_6.2.2.2.2.2.2.1, q_6.2.2.2.2.2.2.2.1, q_6.2.2.2.2.2.2.2.2.1, r0_refusals, q_6.2.2.2.2.2.2.2.2.2.1, q_6.2.2.2.2.2.2.2.2.2.2.1, q_6.2.2.2.2.2.2.2.2.2.2.2)))))))
set_option maxHeartbeats 4000000 in
set_option maxRecDepth 100000 in
theorem C_M_back (l : Launch) (D : va_G) (cI cS : ClassId) (a_r0 : Nat) (a_r0_figures : Nat) (a_r0_hampers : Nat) (a_r0_kinds : Nat) (a_r0_left0 : Nat) (a_r0_refusals : Nat) (a_r0_turnOf : Nat) (a_r0_turns0 : Nat) (a_r0_wants0 : Nat) (a_r0_weights : Nat) (v_r0_letters v_r0_letterMany v_r0_at v_r0_isBad v_r0_statements v_r0_placeIn v_r0_letterOf v_r0_told v_r0_kept v_r0_imaged v_r0_hasImage v_r0_order0 v_r0_likely0 v_r0_leftThen v_r0_row v_r0_rowMany v_r0_seed : Value) (kv : Int32 → Value) (hkv_turnOf : kv 3 = .ref a_r0_turnOf) (r0_days : Int32) (r0_done0 : Int32) (r0_isTaking : Int32) (r0_keptIn : Int32) (r0_place0 : Int32) (r0_things : Int32) (r0_thrown : Int32) (r0_turned : Int32) (r0_figures : Nat → Int32) (r0_hampers : Nat → Int32) (r0_kinds : Nat → Int32) (r0_left0 : Nat → Int32) (r0_refusals : Nat → Int32) (r0_turnOf : Nat → Int32) (r0_turns0 : Nat → Int32) (r0_wants0 : Nat → Int32) (r0_weights : Nat → Int32) (o : Int32 × (Int32) × (Int32) × (Int32) × (Int32) × (Int32) × (Int32) × (Int32) × (Int32) × (Nat → Int32) × (Nat → Int32) × (Nat → Int32) × (Nat → Int32) × (Nat → Int32) × (Nat → Int32) × (Nat → Int32) × (Nat → Int32)) (hr : F_M_back r0_days r0_done0 r0_isTaking r0_keptIn r0_place0 r0_things r0_turned r0_figures r0_hampers r0_kinds r0_left0 r0_refusals r0_turnOf r0_turns0 r0_wants0 r0_weights = some o) : ctI l y_M_back (Cond.code y_M_back b_M_back 2 (some FieldType.int)) (rmd 2) D (kTy cI cS) [.ref a_r0] (w_M_back cI a_r0 a_r0_figures a_r0_hampers a_r0_kinds a_r0_left0 a_r0_refusals a_r0_turnOf a_r0_turns0 a_r0_wants0 a_r0_weights v_r0_letters v_r0_letterMany v_r0_at v_r0_isBad v_r0_statements v_r0_placeIn v_r0_letterOf v_r0_told v_r0_kept v_r0_imaged v_r0_hasImage v_r0_order0 v_r0_likely0 v_r0_leftThen v_r0_row v_r0_rowMany v_r0_seed kv r0_days r0_done0 r0_isTaking r0_keptIn r0_place0 r0_things r0_thrown r0_turned r0_figures r0_hampers r0_kinds r0_left0 r0_refusals r0_turnOf r0_turns0 r0_wants0 r0_weights) (w_M_back cI a_r0 a_r0_figures a_r0_hampers a_r0_kinds a_r0_left0 a_r0_refusals a_r0_turnOf a_r0_turns0 a_r0_wants0 a_r0_weights v_r0_letters v_r0_letterMany v_r0_at v_r0_isBad v_r0_statements v_r0_placeIn v_r0_letterOf v_r0_told v_r0_kept v_r0_imaged v_r0_hasImage v_r0_order0 v_r0_likely0 v_r0_leftThen v_r0_row v_r0_rowMany v_r0_seed kv o.2.1 o.2.2.1 o.2.2.2.1 o.2.2.2.2.1 o.2.2.2.2.2.1 o.2.2.2.2.2.2.1 o.2.2.2.2.2.2.2.1 o.2.2.2.2.2.2.2.2.1 o.2.2.2.2.2.2.2.2.2.1 o.2.2.2.2.2.2.2.2.2.2.1 o.2.2.2.2.2.2.2.2.2.2.2.1 o.2.2.2.2.2.2.2.2.2.2.2.2.1 o.2.2.2.2.2.2.2.2.2.2.2.2.2.1 o.2.2.2.2.2.2.2.2.2.2.2.2.2.2.1 r0_turns0 o.2.2.2.2.2.2.2.2.2.2.2.2.2.2.2.1 o.2.2.2.2.2.2.2.2.2.2.2.2.2.2.2.2) o.1 := by
  unfold F_M_back at hr
  refine ⟨rfl, fun sz => ct_of (w0 := (w_M_back cI a_r0 a_r0_figures a_r0_hampers a_r0_kinds a_r0_left0 a_r0_refusals a_r0_turnOf a_r0_turns0 a_r0_wants0 a_r0_weights v_r0_letters v_r0_letterMany v_r0_at v_r0_isBad v_r0_statements v_r0_placeIn v_r0_letterOf v_r0_told v_r0_kept v_r0_imaged v_r0_hasImage v_r0_order0 v_r0_likely0 v_r0_leftThen v_r0_row v_r0_rowMany v_r0_seed kv r0_days r0_done0 r0_isTaking r0_keptIn r0_place0 r0_things r0_thrown r0_turned r0_figures r0_hampers r0_kinds r0_left0 r0_refusals r0_turnOf r0_turns0 r0_wants0 r0_weights)) (Qc := fun A => qI D (w_M_back cI a_r0 a_r0_figures a_r0_hampers a_r0_kinds a_r0_left0 a_r0_refusals a_r0_turnOf a_r0_turns0 a_r0_wants0 a_r0_weights v_r0_letters v_r0_letterMany v_r0_at v_r0_isBad v_r0_statements v_r0_placeIn v_r0_letterOf v_r0_told v_r0_kept v_r0_imaged v_r0_hasImage v_r0_order0 v_r0_likely0 v_r0_leftThen v_r0_row v_r0_rowMany v_r0_seed kv o.2.1 o.2.2.1 o.2.2.2.1 o.2.2.2.2.1 o.2.2.2.2.2.1 o.2.2.2.2.2.2.1 o.2.2.2.2.2.2.2.1 o.2.2.2.2.2.2.2.2.1 o.2.2.2.2.2.2.2.2.2.1 o.2.2.2.2.2.2.2.2.2.2.1 o.2.2.2.2.2.2.2.2.2.2.2.1 o.2.2.2.2.2.2.2.2.2.2.2.2.1 o.2.2.2.2.2.2.2.2.2.2.2.2.2.1 o.2.2.2.2.2.2.2.2.2.2.2.2.2.2.1 r0_turns0 o.2.2.2.2.2.2.2.2.2.2.2.2.2.2.2.1 o.2.2.2.2.2.2.2.2.2.2.2.2.2.2.2.2) o.1 A) rfl (Nat.le_of_ble_eq_true rfl) ?_ sz⟩
  intro p e s m below meth c A hA C hret ls hl hW
  have C : cx p s m ([.ref a_r0] : List Value).toArray meth c b_M_back 2 R_M D (kTy cI cS) (Cond.code y_M_back b_M_back 2 (some FieldType.int)) := C
  obtain ⟨hx, hb, hml, hown, hts, hK, hlk, hN⟩ := id C
  have hl : lv_has ls 2 [(0, .ref a_r0)] := hl
  obtain ⟨Q, hQ⟩ : ∃ Q, Q = MQ below (qI D (w_M_back cI a_r0 a_r0_figures a_r0_hampers a_r0_kinds a_r0_left0 a_r0_refusals a_r0_turnOf a_r0_turns0 a_r0_wants0 a_r0_weights v_r0_letters v_r0_letterMany v_r0_at v_r0_isBad v_r0_statements v_r0_placeIn v_r0_letterOf v_r0_told v_r0_kept v_r0_imaged v_r0_hasImage v_r0_order0 v_r0_likely0 v_r0_leftThen v_r0_row v_r0_rowMany v_r0_seed kv o.2.1 o.2.2.1 o.2.2.2.1 o.2.2.2.2.1 o.2.2.2.2.2.1 o.2.2.2.2.2.2.1 o.2.2.2.2.2.2.2.1 o.2.2.2.2.2.2.2.2.1 o.2.2.2.2.2.2.2.2.2.1 o.2.2.2.2.2.2.2.2.2.2.1 o.2.2.2.2.2.2.2.2.2.2.2.1 o.2.2.2.2.2.2.2.2.2.2.2.2.1 o.2.2.2.2.2.2.2.2.2.2.2.2.2.1 o.2.2.2.2.2.2.2.2.2.2.2.2.2.2.1 r0_turns0 o.2.2.2.2.2.2.2.2.2.2.2.2.2.2.2.1 o.2.2.2.2.2.2.2.2.2.2.2.2.2.2.2.2) o.1 A) ([.ref a_r0] : List Value).toArray s 0 0 A := ⟨_, rfl⟩
  rw [← hQ]
  refine lv_aload_n hx hb d_M_back_0 rfl (lv_at hl 0 rfl) ?_
  refine lv_iconst (v := 0) hx hb d_M_back_1 (by decide) ?_
  refine k_put i_M t_M_ok n_M C hW 0 rfl rfl 9 (by decide) qf_M_67 rfl rfl (ty := .int) rfl rfl rfl (Nat.le_of_ble_eq_true rfl) (ws' := (w_M_back cI a_r0 a_r0_figures a_r0_hampers a_r0_kinds a_r0_left0 a_r0_refusals a_r0_turnOf a_r0_turns0 a_r0_wants0 a_r0_weights v_r0_letters v_r0_letterMany v_r0_at v_r0_isBad v_r0_statements v_r0_placeIn v_r0_letterOf v_r0_told v_r0_kept v_r0_imaged v_r0_hasImage v_r0_order0 v_r0_likely0 v_r0_leftThen v_r0_row v_r0_rowMany v_r0_seed kv r0_days r0_done0 r0_isTaking r0_keptIn r0_place0 r0_things 0 r0_turned r0_figures r0_hampers r0_kinds r0_left0 r0_refusals r0_turnOf r0_turns0 r0_wants0 r0_weights)) rfl d_M_back_2 (fun H locs hW => ?_)
  refine lv_aload_n hx hb d_M_back_5 rfl (lv_at hl 0 rfl) ?_
  refine k_get i_M C hW 0 rfl rfl 27 (by decide) qf_M_174 rfl rfl d_M_back_6 ?_
  refine lv_if_ne (tgt := 19) hx hb d_M_back_9 (by decide) (fun c_1 => ?_) (fun c_1 => ?_)
  · replace hr := iN c_1 hr
    refine lv_aload_n hx hb d_M_back_19 rfl (lv_at hl 0 rfl) ?_
    refine lv_dup hx hb d_M_back_20 rfl ?_
    refine k_get i_M C hW 0 rfl rfl 27 (by decide) qf_M_174 rfl rfl d_M_back_21 ?_
    refine lv_iconst (v := 1) hx hb d_M_back_24 (by decide) ?_
    refine lv_isub hx hb d_M_back_25 ?_
    refine k_put i_M t_M_ok n_M C hW 0 rfl rfl 27 (by decide) qf_M_174 rfl rfl (ty := .int) rfl rfl rfl (Nat.le_of_ble_eq_true rfl) (ws' := (w_M_back cI a_r0 a_r0_figures a_r0_hampers a_r0_kinds a_r0_left0 a_r0_refusals a_r0_turnOf a_r0_turns0 a_r0_wants0 a_r0_weights v_r0_letters v_r0_letterMany v_r0_at v_r0_isBad v_r0_statements v_r0_placeIn v_r0_letterOf v_r0_told v_r0_kept v_r0_imaged v_r0_hasImage v_r0_order0 v_r0_likely0 v_r0_leftThen v_r0_row v_r0_rowMany v_r0_seed kv r0_days r0_done0 r0_isTaking r0_keptIn r0_place0 r0_things 0 (r0_turned - 1) r0_figures r0_hampers r0_kinds r0_left0 r0_refusals r0_turnOf r0_turns0 r0_wants0 r0_weights)) rfl d_M_back_26 (fun H locs hW => ?_)
    refine lv_iconst (v := 0) hx hb d_M_back_29 (by decide) ?_
    refine lv_istore_n (lv' := [(1, .int 0), (0, .ref a_r0)]) hx hb d_M_back_30 rfl hl (by decide) rfl (fun ls hl => ?_)
    obtain ⟨ex_2, hw_2, hk_2⟩ := ob hr
    have hx_2 : ∀ (e_2 : (Nat → Int32)), e_2 = ex_2 → ∀ (H : Heap) (locs : List Loc) (ls : Array Slot), wd A s.heap D (w_M_back cI a_r0 a_r0_figures a_r0_hampers a_r0_kinds a_r0_left0 a_r0_refusals a_r0_turnOf a_r0_turns0 a_r0_wants0 a_r0_weights v_r0_letters v_r0_letterMany v_r0_at v_r0_isBad v_r0_statements v_r0_placeIn v_r0_letterOf v_r0_told v_r0_kept v_r0_imaged v_r0_hasImage v_r0_order0 v_r0_likely0 v_r0_leftThen v_r0_row v_r0_rowMany v_r0_seed kv r0_days r0_done0 r0_isTaking r0_keptIn r0_place0 r0_things 0 (r0_turned - 1) r0_figures r0_hampers r0_kinds r0_left0 r0_refusals e_2 r0_turns0 r0_wants0 r0_weights) H locs → lv_has ls 2 [(0, .ref a_r0)] → W p l e (rmd 2) s m ([.ref a_r0] : List Value).toArray below meth c H locs 0 0 Q (F0 m 63 ls []) := by
      intro e_2 hE H locs ls hW hl
      subst hE; have hr := hk_2
      refine lv_aload_n hx hb d_M_back_63 rfl (lv_at hl 0 rfl) ?_
      refine lv_aload_n hx hb d_M_back_64 rfl (lv_at hl 0 rfl) ?_
      refine k_get i_M C hW 0 rfl rfl 26 (by decide) qf_M_52 rfl rfl d_M_back_65 ?_
      refine lv_iconst (v := 0) hx hb d_M_back_68 (by decide) ?_
      obtain ⟨q_6, hc_6, hr⟩ := ob hr
      have ct_6 := C_M_carryAll_turnOf l D cI cS a_r0 a_r0_figures a_r0_hampers a_r0_kinds a_r0_left0 a_r0_turnOf a_r0_wants0 a_r0_weights (Value.int 0) (Value.ref a_r0_refusals) v_r0_letters v_r0_letterMany v_r0_at v_r0_isBad v_r0_statements v_r0_placeIn v_r0_letterOf v_r0_told v_r0_kept v_r0_imaged v_r0_hasImage (kv r0_keptIn) (Value.ref a_r0_turns0) (Value.int (r0_turned - 1)) v_r0_order0 v_r0_likely0 v_r0_leftThen v_r0_row v_r0_rowMany v_r0_seed (kv 3) hkv_turnOf r0_days r0_done0 r0_isTaking r0_place0 r0_things r0_figures r0_hampers r0_kinds r0_left0 e_2 r0_wants0 r0_weights 0 q_6 hc_6
      refine k_goV hA hW [0, 1, 2, 3, 4, 6, 8, 9] rfl ct_6.1 (ws' := (w_M_back cI a_r0 a_r0_figures a_r0_hampers a_r0_kinds a_r0_left0 a_r0_refusals a_r0_turnOf a_r0_turns0 a_r0_wants0 a_r0_weights v_r0_letters v_r0_letterMany v_r0_at v_r0_isBad v_r0_statements v_r0_placeIn v_r0_letterOf v_r0_told v_r0_kept v_r0_imaged v_r0_hasImage v_r0_order0 v_r0_likely0 v_r0_leftThen v_r0_row v_r0_rowMany v_r0_seed kv q_6.1 q_6.2.1 q_6.2.2.1 3 q_6.2.2.2.1 q_6.2.2.2.2.1 0 (r0_turned - 1) q_6.2.2.2.2.2.1 q_6.2.2.2.2.2.2.1 q_6.2.2.2.2.2.2.2.1 q_6.2.2.2.2.2.2.2.2.1 r0_refusals q_6.2.2.2.2.2.2.2.2.2.1 r0_turns0 q_6.2.2.2.2.2.2.2.2.2.2.1 q_6.2.2.2.2.2.2.2.2.2.2.2)) rfl (k_runV C hA hW mw_M_carryAll mv_M_carryAll (ct_6.2 _) [0, 1, 2, 3, 4, 6, 8, 9] rfl rfl 0 rfl rfl qm_M_189 ⟨Nat.le_of_ble_eq_true rfl, Nat.le_of_ble_eq_true rfl, Nat.zero_le _, Nat.zero_le _⟩ rfl rfl (Nat.le_of_ble_eq_true rfl) hl.1 d_M_back_69) (fun H locs hW => ?_)
      refine lv_aload_n hx hb d_M_back_72 rfl (lv_at hl 0 rfl) ?_
      refine k_get i_M C hW 0 rfl rfl 27 (by decide) qf_M_174 rfl rfl d_M_back_73 ?_
      obtain rfl := Option.some.inj hr
      rw [hQ]; exact k_iret C hret hW d_M_back_76
    have hl_2 : ∀ (k : Nat) (y1_2 : Int32) (r0_turnOf_2 : Nat → Int32), wh (fun (s : (Int32) × (Nat → Int32)) => F_M_back_L31 r0_turned r0_turns0 s.1 s.2) k (y1_2, r0_turnOf_2) = some ex_2 → ∀ (H : Heap) (locs : List Loc) (ls : Array Slot), wd A s.heap D (w_M_back cI a_r0 a_r0_figures a_r0_hampers a_r0_kinds a_r0_left0 a_r0_refusals a_r0_turnOf a_r0_turns0 a_r0_wants0 a_r0_weights v_r0_letters v_r0_letterMany v_r0_at v_r0_isBad v_r0_statements v_r0_placeIn v_r0_letterOf v_r0_told v_r0_kept v_r0_imaged v_r0_hasImage v_r0_order0 v_r0_likely0 v_r0_leftThen v_r0_row v_r0_rowMany v_r0_seed kv r0_days r0_done0 r0_isTaking r0_keptIn r0_place0 r0_things 0 (r0_turned - 1) r0_figures r0_hampers r0_kinds r0_left0 r0_refusals r0_turnOf_2 r0_turns0 r0_wants0 r0_weights) H locs → lv_has ls 2 [(0, .ref a_r0), (1, .int y1_2)] → W p l e (rmd 2) s m ([.ref a_r0] : List Value).toArray below meth c H locs 0 0 Q (F0 m 31 ls []) := by
      intro k
      induction k with
      | zero => intro y1_2 r0_turnOf_2 hw; exact absurd hw wh_0
      | succ k ih_2 =>
        intro y1_2 r0_turnOf_2 hw H locs ls hW hl
        obtain ⟨z_2, hr, hz1_2, hz2_2⟩ := wh_s hw
        have hr : F_M_back_L31 r0_turned r0_turns0 y1_2 r0_turnOf_2 = some z_2 := hr
        unfold F_M_back_L31 at hr
        refine lv_iload_n hx hb d_M_back_31 rfl (lv_at hl 1 rfl) ?_
        refine lv_bipush (v := 41) hx hb d_M_back_32 (by decide) ?_
        refine lv_icmp_ge (tgt := 63) hx hb d_M_back_34 (by decide) (fun c_3 => ?_) (fun c_3 => ?_)
        · replace hr := ip c_3 hr
          exact hx_2 _ (hz2_2 _ (Option.some.inj hr).symm) _ _ _ hW (lv_sub hl [0] rfl)
        · replace hr := iN c_3 hr
          refine lv_aload_n hx hb d_M_back_37 rfl (lv_at hl 0 rfl) ?_
          refine k_get i_M C hW 0 rfl rfl 26 (by decide) qf_M_52 rfl rfl d_M_back_38 ?_
          refine lv_iload_n hx hb d_M_back_41 rfl (lv_at hl 1 rfl) ?_
          refine lv_aload_n hx hb d_M_back_42 rfl (lv_at hl 0 rfl) ?_
          refine k_get i_M C hW 0 rfl rfl 25 (by decide) qf_M_49 rfl rfl d_M_back_43 ?_
          refine lv_bipush (v := 41) hx hb d_M_back_46 (by decide) ?_
          refine lv_aload_n hx hb d_M_back_48 rfl (lv_at hl 0 rfl) ?_
          refine k_get i_M C hW 0 rfl rfl 27 (by decide) qf_M_174 rfl rfl d_M_back_49 ?_
          refine lv_imul hx hb d_M_back_52 ?_
          refine lv_iload_n hx hb d_M_back_53 rfl (lv_at hl 1 rfl) ?_
          refine lv_iadd hx hb d_M_back_54 ?_
          obtain ⟨h_4, hr⟩ := ck_some hr
          refine k_iald C hW 7 rfl h_4 d_M_back_55 ?_
          obtain ⟨h_5, hr⟩ := ck_some hr
          refine k_iast C hW 6 rfl h_5 (ws' := (w_M_back cI a_r0 a_r0_figures a_r0_hampers a_r0_kinds a_r0_left0 a_r0_refusals a_r0_turnOf a_r0_turns0 a_r0_wants0 a_r0_weights v_r0_letters v_r0_letterMany v_r0_at v_r0_isBad v_r0_statements v_r0_placeIn v_r0_letterOf v_r0_told v_r0_kept v_r0_imaged v_r0_hasImage v_r0_order0 v_r0_likely0 v_r0_leftThen v_r0_row v_r0_rowMany v_r0_seed kv r0_days r0_done0 r0_isTaking r0_keptIn r0_place0 r0_things 0 (r0_turned - 1) r0_figures r0_hampers r0_kinds r0_left0 r0_refusals (upd r0_turnOf_2 (Int32.toNatClampNeg y1_2) (r0_turns0 (Int32.toNatClampNeg (((41 : Int32) * (r0_turned - 1)) + y1_2)))) r0_turns0 r0_wants0 r0_weights)) rfl d_M_back_56 (fun H locs hW => ?_)
          refine lv_iinc (v := (y1_2 + 1)) (lv' := [(1, .int (y1_2 + 1)), (0, .ref a_r0)]) hx hb d_M_back_57 hl (k := 1) rfl rfl (by decide) rfl (fun ls hl => ?_)
          refine lv_goto (tgt := 31) hx hb d_M_back_60 (by decide) ?_
          exact ih_2 (y1_2 + 1) (upd r0_turnOf_2 (Int32.toNatClampNeg y1_2) (r0_turns0 (Int32.toNatClampNeg (((41 : Int32) * (r0_turned - 1)) + y1_2)))) (hz1_2 _ (Option.some.inj hr).symm) _ _ _ hW (lv_sub hl [1, 0] rfl)
    exact hl_2 _ 0 r0_turnOf hw_2 _ _ _ hW (lv_sub hl [1, 0] rfl)
  · replace hr := ip c_1 hr
    refine lv_aload_n hx hb d_M_back_12 rfl (lv_at hl 0 rfl) ?_
    refine lv_bipush (v := (-3)) hx hb d_M_back_13 (by decide) ?_
    obtain ⟨q_7, hc_7, hr⟩ := ob hr
    have ct_7 := C_M_refuse l D cI cS a_r0 a_r0_refusals (Value.ref a_r0_weights) (Value.int r0_things) (Value.ref a_r0_kinds) (Value.ref a_r0_figures) (Value.int r0_days) (Value.ref a_r0_hampers) (Value.ref a_r0_wants0) (Value.ref a_r0_left0) (Value.int r0_done0) (Value.int 0) v_r0_letters v_r0_letterMany v_r0_at v_r0_isBad v_r0_statements v_r0_placeIn v_r0_letterOf v_r0_told v_r0_kept v_r0_imaged v_r0_hasImage (Value.int r0_place0) (Value.int r0_isTaking) (kv r0_keptIn) (Value.ref a_r0_turns0) (Value.ref a_r0_turnOf) (Value.int r0_turned) v_r0_order0 v_r0_likely0 v_r0_leftThen v_r0_row v_r0_rowMany v_r0_seed r0_refusals (-3) q_7 hc_7
    refine k_goI hA hW [0, 5] rfl ct_7.1 (ws' := (w_M_back cI a_r0 a_r0_figures a_r0_hampers a_r0_kinds a_r0_left0 a_r0_refusals a_r0_turnOf a_r0_turns0 a_r0_wants0 a_r0_weights v_r0_letters v_r0_letterMany v_r0_at v_r0_isBad v_r0_statements v_r0_placeIn v_r0_letterOf v_r0_told v_r0_kept v_r0_imaged v_r0_hasImage v_r0_order0 v_r0_likely0 v_r0_leftThen v_r0_row v_r0_rowMany v_r0_seed kv r0_days r0_done0 r0_isTaking r0_keptIn r0_place0 r0_things 0 r0_turned r0_figures r0_hampers r0_kinds r0_left0 q_7.2 r0_turnOf r0_turns0 r0_wants0 r0_weights)) rfl (k_runV C hA hW mw_M_refuse mv_M_refuse (ct_7.2 _) [0, 5] rfl rfl 0 rfl rfl qm_M_108 ⟨Nat.le_of_ble_eq_true rfl, Nat.le_of_ble_eq_true rfl, Nat.zero_le _, Nat.zero_le _⟩ rfl rfl (Nat.le_of_ble_eq_true rfl) hl.1 d_M_back_15) (fun H locs hW => ?_)
    obtain rfl := Option.some.inj hr
    rw [hQ]; exact k_iret C hret hW d_M_back_18
def F_M_in (x0 : Int64) (x2 : Int64) (x4 : Int64) : Option (Int32) :=
  (if (lg_cmp x0 x2) < 0 then (some 0) else (if (0 : Int32) < (lg_cmp x0 x4) then (some 0) else (some 1)))
set_option maxHeartbeats 4000000 in
set_option maxRecDepth 100000 in
theorem C_M_in (l : Launch) (D : va_G) (cI cS : ClassId) (x0 : Int64) (x2 : Int64) (x4 : Int64) (o : Int32) (hr : F_M_in x0 x2 x4 = some o) : ctI l y_M_in (Cond.code y_M_in b_M_in 6 (some FieldType.boolean)) (rmd 0) D (kTy cI cS) [.long x0, .long x2, .long x4] [] [] o := by
  unfold F_M_in at hr
  refine ⟨rfl, fun sz => ct_of (w0 := []) (Qc := fun A => qI D [] o A) rfl (Nat.le_of_ble_eq_true rfl) ?_ sz⟩
  intro p e s m below meth c A hA C hret ls hl hW
  have C : cx p s m ([.long x0, .long x2, .long x4] : List Value).toArray meth c b_M_in 6 R_M D (kTy cI cS) (Cond.code y_M_in b_M_in 6 (some FieldType.boolean)) := C
  obtain ⟨hx, hb, hml, hown, hts, hK, hlk, hN⟩ := id C
  have hl : lv_has ls 6 [(0, .long x0), (2, .long x2), (4, .long x4)] := hl
  obtain ⟨Q, hQ⟩ : ∃ Q, Q = MQ below (qI D [] o A) ([.long x0, .long x2, .long x4] : List Value).toArray s 0 0 A := ⟨_, rfl⟩
  rw [← hQ]
  refine lv_lload_n hx hb d_M_in_0 rfl (lv_at hl 0 rfl) ?_
  refine lv_lload_n hx hb d_M_in_1 rfl (lv_at hl 1 rfl) ?_
  refine W.lcmp hx hb d_M_in_2 ?_
  refine lv_if_lt (tgt := 17) hx hb d_M_in_3 (by decide) (fun c_1 => ?_) (fun c_1 => ?_)
  · replace hr := ip c_1 hr
    refine lv_iconst (v := 0) hx hb d_M_in_17 (by decide) ?_
    obtain rfl := Option.some.inj hr
    rw [hQ]; exact k_zret C hret nar0 hW d_M_in_18
  · replace hr := iN c_1 hr
    refine lv_lload_n hx hb d_M_in_6 rfl (lv_at hl 0 rfl) ?_
    refine lv_lload hx hb d_M_in_7 (lv_at hl 2 rfl) ?_
    refine W.lcmp hx hb d_M_in_9 ?_
    refine lv_if_gt (tgt := 17) hx hb d_M_in_10 (by decide) (fun c_2 => ?_) (fun c_2 => ?_)
    · replace hr := ip c_2 hr
      refine lv_iconst (v := 0) hx hb d_M_in_17 (by decide) ?_
      obtain rfl := Option.some.inj hr
      rw [hQ]; exact k_zret C hret nar0 hW d_M_in_18
    · replace hr := iN c_2 hr
      refine lv_iconst (v := 1) hx hb d_M_in_13 (by decide) ?_
      refine lv_goto (tgt := 18) hx hb d_M_in_14 (by decide) ?_
      obtain rfl := Option.some.inj hr
      rw [hQ]; exact k_zret C hret nar1 hW d_M_in_18
def w_M_isDay (cI : ClassId) (a_r0 : Nat) (v_r0_weights v_r0_things v_r0_kinds v_r0_figures v_r0_hampers v_r0_wants0 v_r0_left0 v_r0_done0 v_r0_thrown v_r0_refusals v_r0_letters v_r0_letterMany v_r0_at v_r0_isBad v_r0_statements v_r0_placeIn v_r0_letterOf v_r0_told v_r0_kept v_r0_imaged v_r0_hasImage v_r0_place0 v_r0_isTaking v_r0_keptIn v_r0_turns0 v_r0_turnOf v_r0_turned v_r0_order0 v_r0_likely0 v_r0_leftThen v_r0_row v_r0_rowMany v_r0_seed : Value) (r0_days : Int32) : va_W := [(a_r0, .inr (9, [v_r0_weights, v_r0_things, v_r0_kinds, v_r0_figures, .int r0_days, v_r0_hampers, v_r0_wants0, v_r0_left0, v_r0_done0, v_r0_thrown, v_r0_refusals, v_r0_letters, v_r0_letterMany, v_r0_at, v_r0_isBad, v_r0_statements, v_r0_placeIn, v_r0_letterOf, v_r0_told, v_r0_kept, v_r0_imaged, v_r0_hasImage, v_r0_place0, v_r0_isTaking, v_r0_keptIn, v_r0_turns0, v_r0_turnOf, v_r0_turned, v_r0_order0, v_r0_likely0, v_r0_leftThen, v_r0_row, v_r0_rowMany, v_r0_seed]))]
def F_M_isDay (r0_days : Int32) (x1 : Int32) : Option (Int32) :=
  ((F_M_in (Int32.toInt64 x1) (0 : Int64) (Int32.toInt64 (r0_days - 1))).bind (fun q_1 => (ckz q_1 (some q_1))))
set_option maxHeartbeats 4000000 in
set_option maxRecDepth 100000 in
theorem C_M_isDay (l : Launch) (D : va_G) (cI cS : ClassId) (a_r0 : Nat) (v_r0_weights v_r0_things v_r0_kinds v_r0_figures v_r0_hampers v_r0_wants0 v_r0_left0 v_r0_done0 v_r0_thrown v_r0_refusals v_r0_letters v_r0_letterMany v_r0_at v_r0_isBad v_r0_statements v_r0_placeIn v_r0_letterOf v_r0_told v_r0_kept v_r0_imaged v_r0_hasImage v_r0_place0 v_r0_isTaking v_r0_keptIn v_r0_turns0 v_r0_turnOf v_r0_turned v_r0_order0 v_r0_likely0 v_r0_leftThen v_r0_row v_r0_rowMany v_r0_seed : Value) (r0_days : Int32) (x1 : Int32) (o : Int32) (hr : F_M_isDay r0_days x1 = some o) : ctI l y_M_isDay (Cond.code y_M_isDay b_M_isDay 2 (some FieldType.boolean)) (rmd 1) D (kTy cI cS) [.ref a_r0, .int x1] (w_M_isDay cI a_r0 v_r0_weights v_r0_things v_r0_kinds v_r0_figures v_r0_hampers v_r0_wants0 v_r0_left0 v_r0_done0 v_r0_thrown v_r0_refusals v_r0_letters v_r0_letterMany v_r0_at v_r0_isBad v_r0_statements v_r0_placeIn v_r0_letterOf v_r0_told v_r0_kept v_r0_imaged v_r0_hasImage v_r0_place0 v_r0_isTaking v_r0_keptIn v_r0_turns0 v_r0_turnOf v_r0_turned v_r0_order0 v_r0_likely0 v_r0_leftThen v_r0_row v_r0_rowMany v_r0_seed r0_days) (w_M_isDay cI a_r0 v_r0_weights v_r0_things v_r0_kinds v_r0_figures v_r0_hampers v_r0_wants0 v_r0_left0 v_r0_done0 v_r0_thrown v_r0_refusals v_r0_letters v_r0_letterMany v_r0_at v_r0_isBad v_r0_statements v_r0_placeIn v_r0_letterOf v_r0_told v_r0_kept v_r0_imaged v_r0_hasImage v_r0_place0 v_r0_isTaking v_r0_keptIn v_r0_turns0 v_r0_turnOf v_r0_turned v_r0_order0 v_r0_likely0 v_r0_leftThen v_r0_row v_r0_rowMany v_r0_seed r0_days) o := by
  unfold F_M_isDay at hr
  refine ⟨rfl, fun sz => ct_of (w0 := (w_M_isDay cI a_r0 v_r0_weights v_r0_things v_r0_kinds v_r0_figures v_r0_hampers v_r0_wants0 v_r0_left0 v_r0_done0 v_r0_thrown v_r0_refusals v_r0_letters v_r0_letterMany v_r0_at v_r0_isBad v_r0_statements v_r0_placeIn v_r0_letterOf v_r0_told v_r0_kept v_r0_imaged v_r0_hasImage v_r0_place0 v_r0_isTaking v_r0_keptIn v_r0_turns0 v_r0_turnOf v_r0_turned v_r0_order0 v_r0_likely0 v_r0_leftThen v_r0_row v_r0_rowMany v_r0_seed r0_days)) (Qc := fun A => qI D (w_M_isDay cI a_r0 v_r0_weights v_r0_things v_r0_kinds v_r0_figures v_r0_hampers v_r0_wants0 v_r0_left0 v_r0_done0 v_r0_thrown v_r0_refusals v_r0_letters v_r0_letterMany v_r0_at v_r0_isBad v_r0_statements v_r0_placeIn v_r0_letterOf v_r0_told v_r0_kept v_r0_imaged v_r0_hasImage v_r0_place0 v_r0_isTaking v_r0_keptIn v_r0_turns0 v_r0_turnOf v_r0_turned v_r0_order0 v_r0_likely0 v_r0_leftThen v_r0_row v_r0_rowMany v_r0_seed r0_days) o A) rfl (Nat.le_of_ble_eq_true rfl) ?_ sz⟩
  intro p e s m below meth c A hA C hret ls hl hW
  have C : cx p s m ([.ref a_r0, .int x1] : List Value).toArray meth c b_M_isDay 2 R_M D (kTy cI cS) (Cond.code y_M_isDay b_M_isDay 2 (some FieldType.boolean)) := C
  obtain ⟨hx, hb, hml, hown, hts, hK, hlk, hN⟩ := id C
  have hl : lv_has ls 2 [(0, .ref a_r0), (1, .int x1)] := hl
  obtain ⟨Q, hQ⟩ : ∃ Q, Q = MQ below (qI D (w_M_isDay cI a_r0 v_r0_weights v_r0_things v_r0_kinds v_r0_figures v_r0_hampers v_r0_wants0 v_r0_left0 v_r0_done0 v_r0_thrown v_r0_refusals v_r0_letters v_r0_letterMany v_r0_at v_r0_isBad v_r0_statements v_r0_placeIn v_r0_letterOf v_r0_told v_r0_kept v_r0_imaged v_r0_hasImage v_r0_place0 v_r0_isTaking v_r0_keptIn v_r0_turns0 v_r0_turnOf v_r0_turned v_r0_order0 v_r0_likely0 v_r0_leftThen v_r0_row v_r0_rowMany v_r0_seed r0_days) o A) ([.ref a_r0, .int x1] : List Value).toArray s 0 0 A := ⟨_, rfl⟩
  rw [← hQ]
  refine lv_iload_n hx hb d_M_isDay_0 rfl (lv_at hl 1 rfl) ?_
  refine lv_i2l hx hb d_M_isDay_1 rfl ?_
  refine lv_lconst (v := 0) hx hb d_M_isDay_2 (by decide) ?_
  refine lv_aload_n hx hb d_M_isDay_3 rfl (lv_at hl 0 rfl) ?_
  refine k_get i_M C hW 0 rfl rfl 4 (by decide) qf_M_78 rfl rfl d_M_isDay_4 ?_
  refine lv_iconst (v := 1) hx hb d_M_isDay_7 (by decide) ?_
  refine lv_isub hx hb d_M_isDay_8 ?_
  refine lv_i2l hx hb d_M_isDay_9 rfl ?_
  obtain ⟨q_1, hc_1, hr⟩ := ob hr
  have ct_1 := C_M_in l D cI cS (Int32.toInt64 x1) 0 (Int32.toInt64 (r0_days - 1)) q_1 hc_1
  refine k_goIp hA hW [] rfl rfl (k_runS C hA hW mw_M_in ms_M_in (ct_1.2 _) [] rfl rfl qm_M_74 ⟨Nat.le_of_ble_eq_true rfl, Nat.le_of_ble_eq_true rfl, Nat.zero_le _, Nat.zero_le _⟩ rfl rfl (Nat.le_of_ble_eq_true rfl) hl.1 d_M_isDay_10) (fun H locs hW => ?_)
  obtain ⟨hz_2, -, hr⟩ := ckz_some hr
  obtain rfl := Option.some.inj hr
  rw [hQ]; exact k_zret C hret hz_2 hW d_M_isDay_13
def F_M_winBy_J23_4 (x2 : Int32) (x3 : Int32) (s0_4 : Int32) : Option (Int32) :=
  (if x2 ≤ x3 then (if s0_4 = 0 then (some 3) else (some (-1))) else (if s0_4 = 1 then (some 3) else (some (-1))))
def F_M_winBy (x0 : Int32) (x1 : Int32) (x2 : Int32) (x3 : Int32) : Option (Int32) :=
  (if x0 = x1 then (some 0) else (if x2 = x3 then (some 1) else (if x0 = 0 then (F_M_winBy_J23_4 x2 x3 1) else (F_M_winBy_J23_4 x2 x3 0))))
set_option maxHeartbeats 4000000 in
set_option maxRecDepth 100000 in
theorem C_M_winBy (l : Launch) (D : va_G) (cI cS : ClassId) (x0 : Int32) (x1 : Int32) (x2 : Int32) (x3 : Int32) (o : Int32) (hr : F_M_winBy x0 x1 x2 x3 = some o) : ctI l y_M_winBy (Cond.code y_M_winBy b_M_winBy 4 (some FieldType.int)) (rmd 0) D (kTy cI cS) [.int x0, .int x1, .int x2, .int x3] [] [] o := by
  unfold F_M_winBy at hr
  refine ⟨rfl, fun sz => ct_of (w0 := []) (Qc := fun A => qI D [] o A) rfl (Nat.le_of_ble_eq_true rfl) ?_ sz⟩
  intro p e s m below meth c A hA C hret ls hl hW
  have C : cx p s m ([.int x0, .int x1, .int x2, .int x3] : List Value).toArray meth c b_M_winBy 4 R_M D (kTy cI cS) (Cond.code y_M_winBy b_M_winBy 4 (some FieldType.int)) := C
  obtain ⟨hx, hb, hml, hown, hts, hK, hlk, hN⟩ := id C
  have hl : lv_has ls 4 [(0, .int x0), (1, .int x1), (2, .int x2), (3, .int x3)] := hl
  obtain ⟨Q, hQ⟩ : ∃ Q, Q = MQ below (qI D [] o A) ([.int x0, .int x1, .int x2, .int x3] : List Value).toArray s 0 0 A := ⟨_, rfl⟩
  rw [← hQ]
  refine lv_iload_n hx hb d_M_winBy_0 rfl (lv_at hl 0 rfl) ?_
  refine lv_iload_n hx hb d_M_winBy_1 rfl (lv_at hl 1 rfl) ?_
  refine lv_icmp_ne (tgt := 7) hx hb d_M_winBy_2 (by decide) (fun c_1 => ?_) (fun c_1 => ?_)
  · replace hr := iN c_1 hr
    refine lv_iload_n hx hb d_M_winBy_7 rfl (lv_at hl 2 rfl) ?_
    refine lv_iload_n hx hb d_M_winBy_8 rfl (lv_at hl 3 rfl) ?_
    refine lv_icmp_ne (tgt := 14) hx hb d_M_winBy_9 (by decide) (fun c_2 => ?_) (fun c_2 => ?_)
    · replace hr := iN c_2 hr
      refine lv_iload_n hx hb d_M_winBy_14 rfl (lv_at hl 0 rfl) ?_
      have hJ_4 : ∀ (s0_4 : Int32), F_M_winBy_J23_4 x2 x3 s0_4 = some o → ∀ (H : Heap) (locs : List Loc) (ls : Array Slot), wd A s.heap D [] H locs → lv_has ls 4 [(2, .int x2), (3, .int x3)] → W p l e (rmd 0) s m ([.int x0, .int x1, .int x2, .int x3] : List Value).toArray below meth c H locs 0 0 Q (F0 m 23 ls [.int s0_4]) := by
        intro s0_4 hr H locs ls hW hl
        unfold F_M_winBy_J23_4 at hr
        refine lv_iload_n hx hb d_M_winBy_23 rfl (lv_at hl 0 rfl) ?_
        refine lv_iload_n hx hb d_M_winBy_24 rfl (lv_at hl 1 rfl) ?_
        refine lv_icmp_le (tgt := 32) hx hb d_M_winBy_25 (by decide) (fun c_5 => ?_) (fun c_5 => ?_)
        · replace hr := ip c_5 hr
          refine lv_iconst (v := 0) hx hb d_M_winBy_32 (by decide) ?_
          refine lv_icmp_ne (tgt := 40) hx hb d_M_winBy_33 (by decide) (fun c_6 => ?_) (fun c_6 => ?_)
          · replace hr := iN c_6 hr
            refine lv_iconst (v := (-1)) hx hb d_M_winBy_40 (by decide) ?_
            obtain rfl := Option.some.inj hr
            rw [hQ]; exact k_iret C hret hW d_M_winBy_41
          · replace hr := ip c_6 hr
            refine lv_iconst (v := 3) hx hb d_M_winBy_36 (by decide) ?_
            refine lv_goto (tgt := 41) hx hb d_M_winBy_37 (by decide) ?_
            obtain rfl := Option.some.inj hr
            rw [hQ]; exact k_iret C hret hW d_M_winBy_41
        · replace hr := iN c_5 hr
          refine lv_iconst (v := 1) hx hb d_M_winBy_28 (by decide) ?_
          refine lv_goto (tgt := 33) hx hb d_M_winBy_29 (by decide) ?_
          refine lv_icmp_ne (tgt := 40) hx hb d_M_winBy_33 (by decide) (fun c_7 => ?_) (fun c_7 => ?_)
          · replace hr := iN c_7 hr
            refine lv_iconst (v := (-1)) hx hb d_M_winBy_40 (by decide) ?_
            obtain rfl := Option.some.inj hr
            rw [hQ]; exact k_iret C hret hW d_M_winBy_41
          · replace hr := ip c_7 hr
            refine lv_iconst (v := 3) hx hb d_M_winBy_36 (by decide) ?_
            refine lv_goto (tgt := 41) hx hb d_M_winBy_37 (by decide) ?_
            obtain rfl := Option.some.inj hr
            rw [hQ]; exact k_iret C hret hW d_M_winBy_41
      refine lv_if_ne (tgt := 22) hx hb d_M_winBy_15 (by decide) (fun c_3 => ?_) (fun c_3 => ?_)
      · replace hr := iN c_3 hr
        refine lv_iconst (v := 0) hx hb d_M_winBy_22 (by decide) ?_
        exact hJ_4 0 hr _ _ _ hW (lv_sub hl [2, 3] rfl)
      · replace hr := ip c_3 hr
        refine lv_iconst (v := 1) hx hb d_M_winBy_18 (by decide) ?_
        refine lv_goto (tgt := 23) hx hb d_M_winBy_19 (by decide) ?_
        exact hJ_4 1 hr _ _ _ hW (lv_sub hl [2, 3] rfl)
    · replace hr := ip c_2 hr
      refine lv_iconst (v := 1) hx hb d_M_winBy_12 (by decide) ?_
      obtain rfl := Option.some.inj hr
      rw [hQ]; exact k_iret C hret hW d_M_winBy_13
  · replace hr := ip c_1 hr
    refine lv_iconst (v := 0) hx hb d_M_winBy_5 (by decide) ?_
    obtain rfl := Option.some.inj hr
    rw [hQ]; exact k_iret C hret hW d_M_winBy_6
def w_M_bet (cI : ClassId) (a_r0 : Nat) (a_r0_figures : Nat) (a_r0_hampers : Nat) (a_r0_kinds : Nat) (a_r0_refusals : Nat) (v_r0_weights v_r0_wants0 v_r0_left0 v_r0_done0 v_r0_letters v_r0_letterMany v_r0_at v_r0_isBad v_r0_statements v_r0_placeIn v_r0_letterOf v_r0_told v_r0_kept v_r0_imaged v_r0_hasImage v_r0_place0 v_r0_isTaking v_r0_keptIn v_r0_turns0 v_r0_turnOf v_r0_turned v_r0_order0 v_r0_likely0 v_r0_leftThen v_r0_row v_r0_rowMany v_r0_seed : Value) (r0_days : Int32) (r0_things : Int32) (r0_thrown : Int32) (r0_figures : Nat → Int32) (r0_hampers : Nat → Int32) (r0_kinds : Nat → Int32) (r0_refusals : Nat → Int32) : va_W := [(a_r0, .inr (9, [v_r0_weights, .int r0_things, .ref a_r0_kinds, .ref a_r0_figures, .int r0_days, .ref a_r0_hampers, v_r0_wants0, v_r0_left0, v_r0_done0, .int r0_thrown, .ref a_r0_refusals, v_r0_letters, v_r0_letterMany, v_r0_at, v_r0_isBad, v_r0_statements, v_r0_placeIn, v_r0_letterOf, v_r0_told, v_r0_kept, v_r0_imaged, v_r0_hasImage, v_r0_place0, v_r0_isTaking, v_r0_keptIn, v_r0_turns0, v_r0_turnOf, v_r0_turned, v_r0_order0, v_r0_likely0, v_r0_leftThen, v_r0_row, v_r0_rowMany, v_r0_seed])), (a_r0_figures, .inl (cI, 8, .inl r0_figures)), (a_r0_hampers, .inl (cI, 8, .inl r0_hampers)), (a_r0_kinds, .inl (cI, 8, .inl r0_kinds)), (a_r0_refusals, .inl (cI, 7, .inl r0_refusals))]
def F_M_bet_J26_3 (r0_refusals : Nat → Int32) : Option (Int32 × (Int32) × (Nat → Int32)) :=
  ((F_M_refuse r0_refusals ((-1) : Int32)).bind (fun q_4 => (some (q_4.1, 0, q_4.2))))
def F_M_bet_L58 (r0_refusals : Nat → Int32) (q_9 : Int32) (q_11 : Int32) (y5_12 : Int32) : Option (((Int32)) ⊕ (((Unit) ⊕ (Int32 × (Int32) × (Nat → Int32))))) :=
  (if (4 : Int32) ≤ y5_12 then (some (.inr (.inl ()))) else ((F_M_winBy ((1 : Int32) - (y5_12 / (2 : Int32))) (y5_12 - y5_12 / (2 : Int32) * (2 : Int32)) q_9 q_11).bind (fun q_14 => ((F_M_winBy (y5_12 / (2 : Int32)) (y5_12 - y5_12 / (2 : Int32) * (2 : Int32)) q_9 q_11).bind (fun q_15 => (if q_15 < q_14 then (some (.inl (y5_12 + 1))) else ((F_M_winBy ((1 : Int32) - (y5_12 - y5_12 / (2 : Int32) * (2 : Int32))) (y5_12 / (2 : Int32)) q_9 q_11).bind (fun q_17 => ((F_M_winBy (y5_12 - y5_12 / (2 : Int32) * (2 : Int32)) (y5_12 / (2 : Int32)) q_9 q_11).bind (fun q_18 => (if q_18 < q_17 then (some (.inl (y5_12 + 1))) else (some (.inr (.inr ((((10 : Int32) * (y5_12 / (2 : Int32))) + (y5_12 - y5_12 / (2 : Int32) * (2 : Int32))), 0, r0_refusals)))))))))))))))
def F_M_bet (r0_days : Int32) (r0_things : Int32) (r0_figures : Nat → Int32) (r0_hampers : Nat → Int32) (r0_kinds : Nat → Int32) (r0_refusals : Nat → Int32) (x1 : Int32) (x2 : Int32) : Option (Int32 × (Int32) × (Nat → Int32)) :=
  ((F_M_isDay r0_days x1).bind (fun q_1 => (if q_1 = 0 then (F_M_bet_J26_3 r0_refusals) else ((F_M_isDay r0_days x2).bind (fun q_5 => (if q_5 = 0 then (F_M_bet_J26_3 r0_refusals) else (if x1 = x2 then (F_M_bet_J26_3 r0_refusals) else (ck x1 8 ((F_M_allDear r0_things r0_figures r0_kinds (r0_hampers (Int32.toNatClampNeg x1))).bind (fun q_9 => (ck x2 8 ((F_M_allDear r0_things r0_figures r0_kinds (r0_hampers (Int32.toNatClampNeg x2))).bind (fun q_11 => ((wh (fun (s : (Int32)) => F_M_bet_L58 r0_refusals q_9 q_11 s) 400 (0 : Int32)).bind (sx (fun e_12 => (some ((-9), 0, r0_refusals))) (fun o => some o))))))))))))))))
set_option maxHeartbeats 4000000 in
set_option maxRecDepth 100000 in
theorem C_M_bet (l : Launch) (D : va_G) (cI cS : ClassId) (a_r0 : Nat) (a_r0_figures : Nat) (a_r0_hampers : Nat) (a_r0_kinds : Nat) (a_r0_refusals : Nat) (v_r0_weights v_r0_wants0 v_r0_left0 v_r0_done0 v_r0_letters v_r0_letterMany v_r0_at v_r0_isBad v_r0_statements v_r0_placeIn v_r0_letterOf v_r0_told v_r0_kept v_r0_imaged v_r0_hasImage v_r0_place0 v_r0_isTaking v_r0_keptIn v_r0_turns0 v_r0_turnOf v_r0_turned v_r0_order0 v_r0_likely0 v_r0_leftThen v_r0_row v_r0_rowMany v_r0_seed : Value) (r0_days : Int32) (r0_things : Int32) (r0_thrown : Int32) (r0_figures : Nat → Int32) (r0_hampers : Nat → Int32) (r0_kinds : Nat → Int32) (r0_refusals : Nat → Int32) (x1 : Int32) (x2 : Int32) (o : Int32 × (Int32) × (Nat → Int32)) (hr : F_M_bet r0_days r0_things r0_figures r0_hampers r0_kinds r0_refusals x1 x2 = some o) : ctI l y_M_bet (Cond.code y_M_bet b_M_bet 8 (some FieldType.int)) (rmd 2) D (kTy cI cS) [.ref a_r0, .int x1, .int x2] (w_M_bet cI a_r0 a_r0_figures a_r0_hampers a_r0_kinds a_r0_refusals v_r0_weights v_r0_wants0 v_r0_left0 v_r0_done0 v_r0_letters v_r0_letterMany v_r0_at v_r0_isBad v_r0_statements v_r0_placeIn v_r0_letterOf v_r0_told v_r0_kept v_r0_imaged v_r0_hasImage v_r0_place0 v_r0_isTaking v_r0_keptIn v_r0_turns0 v_r0_turnOf v_r0_turned v_r0_order0 v_r0_likely0 v_r0_leftThen v_r0_row v_r0_rowMany v_r0_seed r0_days r0_things r0_thrown r0_figures r0_hampers r0_kinds r0_refusals) (w_M_bet cI a_r0 a_r0_figures a_r0_hampers a_r0_kinds a_r0_refusals v_r0_weights v_r0_wants0 v_r0_left0 v_r0_done0 v_r0_letters v_r0_letterMany v_r0_at v_r0_isBad v_r0_statements v_r0_placeIn v_r0_letterOf v_r0_told v_r0_kept v_r0_imaged v_r0_hasImage v_r0_place0 v_r0_isTaking v_r0_keptIn v_r0_turns0 v_r0_turnOf v_r0_turned v_r0_order0 v_r0_likely0 v_r0_leftThen v_r0_row v_r0_rowMany v_r0_seed r0_days r0_things o.2.1 r0_figures r0_hampers r0_kinds o.2.2) o.1 := by
  unfold F_M_bet at hr
  refine ⟨rfl, fun sz => ct_of (w0 := (w_M_bet cI a_r0 a_r0_figures a_r0_hampers a_r0_kinds a_r0_refusals v_r0_weights v_r0_wants0 v_r0_left0 v_r0_done0 v_r0_letters v_r0_letterMany v_r0_at v_r0_isBad v_r0_statements v_r0_placeIn v_r0_letterOf v_r0_told v_r0_kept v_r0_imaged v_r0_hasImage v_r0_place0 v_r0_isTaking v_r0_keptIn v_r0_turns0 v_r0_turnOf v_r0_turned v_r0_order0 v_r0_likely0 v_r0_leftThen v_r0_row v_r0_rowMany v_r0_seed r0_days r0_things r0_thrown r0_figures r0_hampers r0_kinds r0_refusals)) (Qc := fun A => qI D (w_M_bet cI a_r0 a_r0_figures a_r0_hampers a_r0_kinds a_r0_refusals v_r0_weights v_r0_wants0 v_r0_left0 v_r0_done0 v_r0_letters v_r0_letterMany v_r0_at v_r0_isBad v_r0_statements v_r0_placeIn v_r0_letterOf v_r0_told v_r0_kept v_r0_imaged v_r0_hasImage v_r0_place0 v_r0_isTaking v_r0_keptIn v_r0_turns0 v_r0_turnOf v_r0_turned v_r0_order0 v_r0_likely0 v_r0_leftThen v_r0_row v_r0_rowMany v_r0_seed r0_days r0_things o.2.1 r0_figures r0_hampers r0_kinds o.2.2) o.1 A) rfl (Nat.le_of_ble_eq_true rfl) ?_ sz⟩
  intro p e s m below meth c A hA C hret ls hl hW
  have C : cx p s m ([.ref a_r0, .int x1, .int x2] : List Value).toArray meth c b_M_bet 8 R_M D (kTy cI cS) (Cond.code y_M_bet b_M_bet 8 (some FieldType.int)) := C
  obtain ⟨hx, hb, hml, hown, hts, hK, hlk, hN⟩ := id C
  have hl : lv_has ls 8 [(0, .ref a_r0), (1, .int x1), (2, .int x2)] := hl
  obtain ⟨Q, hQ⟩ : ∃ Q, Q = MQ below (qI D (w_M_bet cI a_r0 a_r0_figures a_r0_hampers a_r0_kinds a_r0_refusals v_r0_weights v_r0_wants0 v_r0_left0 v_r0_done0 v_r0_letters v_r0_letterMany v_r0_at v_r0_isBad v_r0_statements v_r0_placeIn v_r0_letterOf v_r0_told v_r0_kept v_r0_imaged v_r0_hasImage v_r0_place0 v_r0_isTaking v_r0_keptIn v_r0_turns0 v_r0_turnOf v_r0_turned v_r0_order0 v_r0_likely0 v_r0_leftThen v_r0_row v_r0_rowMany v_r0_seed r0_days r0_things o.2.1 r0_figures r0_hampers r0_kinds o.2.2) o.1 A) ([.ref a_r0, .int x1, .int x2] : List Value).toArray s 0 0 A := ⟨_, rfl⟩
  rw [← hQ]
  refine lv_aload_n hx hb d_M_bet_0 rfl (lv_at hl 0 rfl) ?_
  refine lv_iconst (v := 0) hx hb d_M_bet_1 (by decide) ?_
  refine k_put i_M t_M_ok n_M C hW 0 rfl rfl 9 (by decide) qf_M_67 rfl rfl (ty := .int) rfl rfl rfl (Nat.le_of_ble_eq_true rfl) (ws' := (w_M_bet cI a_r0 a_r0_figures a_r0_hampers a_r0_kinds a_r0_refusals v_r0_weights v_r0_wants0 v_r0_left0 v_r0_done0 v_r0_letters v_r0_letterMany v_r0_at v_r0_isBad v_r0_statements v_r0_placeIn v_r0_letterOf v_r0_told v_r0_kept v_r0_imaged v_r0_hasImage v_r0_place0 v_r0_isTaking v_r0_keptIn v_r0_turns0 v_r0_turnOf v_r0_turned v_r0_order0 v_r0_likely0 v_r0_leftThen v_r0_row v_r0_rowMany v_r0_seed r0_days r0_things 0 r0_figures r0_hampers r0_kinds r0_refusals)) rfl d_M_bet_2 (fun H locs hW => ?_)
  refine lv_aload_n hx hb d_M_bet_5 rfl (lv_at hl 0 rfl) ?_
  refine lv_iload_n hx hb d_M_bet_6 rfl (lv_at hl 1 rfl) ?_
  obtain ⟨q_1, hc_1, hr⟩ := ob hr
  have ct_1 := C_M_isDay l D cI cS a_r0 v_r0_weights (Value.int r0_things) (Value.ref a_r0_kinds) (Value.ref a_r0_figures) (Value.ref a_r0_hampers) v_r0_wants0 v_r0_left0 v_r0_done0 (Value.int 0) (Value.ref a_r0_refusals) v_r0_letters v_r0_letterMany v_r0_at v_r0_isBad v_r0_statements v_r0_placeIn v_r0_letterOf v_r0_told v_r0_kept v_r0_imaged v_r0_hasImage v_r0_place0 v_r0_isTaking v_r0_keptIn v_r0_turns0 v_r0_turnOf v_r0_turned v_r0_order0 v_r0_likely0 v_r0_leftThen v_r0_row v_r0_rowMany v_r0_seed r0_days x1 q_1 hc_1
  refine k_goIp hA hW [0] rfl rfl (k_runV C hA hW mw_M_isDay mv_M_isDay (ct_1.2 _) [0] rfl rfl 0 rfl rfl qm_M_150 ⟨Nat.le_of_ble_eq_true rfl, Nat.le_of_ble_eq_true rfl, Nat.zero_le _, Nat.zero_le _⟩ rfl rfl (Nat.le_of_ble_eq_true rfl) hl.1 d_M_bet_7) (fun H locs hW => ?_)
  have hJ_3 : ∀ (_ : Unit), F_M_bet_J26_3 r0_refusals = some o → ∀ (H : Heap) (locs : List Loc) (ls : Array Slot), wd A s.heap D (w_M_bet cI a_r0 a_r0_figures a_r0_hampers a_r0_kinds a_r0_refusals v_r0_weights v_r0_wants0 v_r0_left0 v_r0_done0 v_r0_letters v_r0_letterMany v_r0_at v_r0_isBad v_r0_statements v_r0_placeIn v_r0_letterOf v_r0_told v_r0_kept v_r0_imaged v_r0_hasImage v_r0_place0 v_r0_isTaking v_r0_keptIn v_r0_turns0 v_r0_turnOf v_r0_turned v_r0_order0 v_r0_likely0 v_r0_leftThen v_r0_row v_r0_rowMany v_r0_seed r0_days r0_things 0 r0_figures r0_hampers r0_kinds r0_refusals) H locs → lv_has ls 8 [(0, .ref a_r0)] → W p l e (rmd 2) s m ([.ref a_r0, .int x1, .int x2] : List Value).toArray below meth c H locs 0 0 Q (F0 m 26 ls []) := by
    intro _ hr H locs ls hW hl
    unfold F_M_bet_J26_3 at hr
    refine lv_aload_n hx hb d_M_bet_26 rfl (lv_at hl 0 rfl) ?_
    refine lv_iconst (v := (-1)) hx hb d_M_bet_27 (by decide) ?_
    obtain ⟨q_4, hc_4, hr⟩ := ob hr
    have ct_4 := C_M_refuse l D cI cS a_r0 a_r0_refusals v_r0_weights (Value.int r0_things) (Value.ref a_r0_kinds) (Value.ref a_r0_figures) (Value.int r0_days) (Value.ref a_r0_hampers) v_r0_wants0 v_r0_left0 v_r0_done0 (Value.int 0) v_r0_letters v_r0_letterMany v_r0_at v_r0_isBad v_r0_statements v_r0_placeIn v_r0_letterOf v_r0_told v_r0_kept v_r0_imaged v_r0_hasImage v_r0_place0 v_r0_isTaking v_r0_keptIn v_r0_turns0 v_r0_turnOf v_r0_turned v_r0_order0 v_r0_likely0 v_r0_leftThen v_r0_row v_r0_rowMany v_r0_seed r0_refusals (-1) q_4 hc_4
    refine k_goI hA hW [0, 4] rfl ct_4.1 (ws' := (w_M_bet cI a_r0 a_r0_figures a_r0_hampers a_r0_kinds a_r0_refusals v_r0_weights v_r0_wants0 v_r0_left0 v_r0_done0 v_r0_letters v_r0_letterMany v_r0_at v_r0_isBad v_r0_statements v_r0_placeIn v_r0_letterOf v_r0_told v_r0_kept v_r0_imaged v_r0_hasImage v_r0_place0 v_r0_isTaking v_r0_keptIn v_r0_turns0 v_r0_turnOf v_r0_turned v_r0_order0 v_r0_likely0 v_r0_leftThen v_r0_row v_r0_rowMany v_r0_seed r0_days r0_things 0 r0_figures r0_hampers r0_kinds q_4.2)) rfl (k_runV C hA hW mw_M_refuse mv_M_refuse (ct_4.2 _) [0, 4] rfl rfl 0 rfl rfl qm_M_108 ⟨Nat.le_of_ble_eq_true rfl, Nat.le_of_ble_eq_true rfl, Nat.zero_le _, Nat.zero_le _⟩ rfl rfl (Nat.le_of_ble_eq_true rfl) hl.1 d_M_bet_28) (fun H locs hW => ?_)
    obtain rfl := Option.some.inj hr
    rw [hQ]; exact k_iret C hret hW d_M_bet_31
  refine lv_if_eq (tgt := 26) hx hb d_M_bet_10 (by decide) (fun c_2 => ?_) (fun c_2 => ?_)
  · replace hr := ip c_2 hr
    exact hJ_3 () hr _ _ _ hW (lv_sub hl [0] rfl)
  · replace hr := iN c_2 hr
    refine lv_aload_n hx hb d_M_bet_13 rfl (lv_at hl 0 rfl) ?_
    refine lv_iload_n hx hb d_M_bet_14 rfl (lv_at hl 2 rfl) ?_
    obtain ⟨q_5, hc_5, hr⟩ := ob hr
    have ct_5 := C_M_isDay l D cI cS a_r0 v_r0_weights (Value.int r0_things) (Value.ref a_r0_kinds) (Value.ref a_r0_figures) (Value.ref a_r0_hampers) v_r0_wants0 v_r0_left0 v_r0_done0 (Value.int 0) (Value.ref a_r0_refusals) v_r0_letters v_r0_letterMany v_r0_at v_r0_isBad v_r0_statements v_r0_placeIn v_r0_letterOf v_r0_told v_r0_kept v_r0_imaged v_r0_hasImage v_r0_place0 v_r0_isTaking v_r0_keptIn v_r0_turns0 v_r0_turnOf v_r0_turned v_r0_order0 v_r0_likely0 v_r0_leftThen v_r0_row v_r0_rowMany v_r0_seed r0_days x2 q_5 hc_5
    refine k_goIp hA hW [0] rfl rfl (k_runV C hA hW mw_M_isDay mv_M_isDay (ct_5.2 _) [0] rfl rfl 0 rfl rfl qm_M_150 ⟨Nat.le_of_ble_eq_true rfl, Nat.le_of_ble_eq_true rfl, Nat.zero_le _, Nat.zero_le _⟩ rfl rfl (Nat.le_of_ble_eq_true rfl) hl.1 d_M_bet_15) (fun H locs hW => ?_)
    refine lv_if_eq (tgt := 26) hx hb d_M_bet_18 (by decide) (fun c_6 => ?_) (fun c_6 => ?_)
    · replace hr := ip c_6 hr
      exact hJ_3 () hr _ _ _ hW (lv_sub hl [0] rfl)
    · replace hr := iN c_6 hr
      refine lv_iload_n hx hb d_M_bet_21 rfl (lv_at hl 1 rfl) ?_
      refine lv_iload_n hx hb d_M_bet_22 rfl (lv_at hl 2 rfl) ?_
      refine lv_icmp_ne (tgt := 32) hx hb d_M_bet_23 (by decide) (fun c_7 => ?_) (fun c_7 => ?_)
      · replace hr := iN c_7 hr
        refine lv_aload_n hx hb d_M_bet_32 rfl (lv_at hl 0 rfl) ?_
        refine lv_aload_n hx hb d_M_bet_33 rfl (lv_at hl 0 rfl) ?_
        refine k_get i_M C hW 0 rfl rfl 5 (by decide) qf_M_19 rfl rfl d_M_bet_34 ?_
        refine lv_iload_n hx hb d_M_bet_37 rfl (lv_at hl 1 rfl) ?_
        obtain ⟨h_8, hr⟩ := ck_some hr
        refine k_iald C hW 2 rfl h_8 d_M_bet_38 ?_
        obtain ⟨q_9, hc_9, hr⟩ := ob hr
        have ct_9 := C_M_allDear l D cI cS a_r0 a_r0_figures a_r0_kinds v_r0_weights (Value.int r0_days) (Value.ref a_r0_hampers) v_r0_wants0 v_r0_left0 v_r0_done0 (Value.int 0) (Value.ref a_r0_refusals) v_r0_letters v_r0_letterMany v_r0_at v_r0_isBad v_r0_statements v_r0_placeIn v_r0_letterOf v_r0_told v_r0_kept v_r0_imaged v_r0_hasImage v_r0_place0 v_r0_isTaking v_r0_keptIn v_r0_turns0 v_r0_turnOf v_r0_turned v_r0_order0 v_r0_likely0 v_r0_leftThen v_r0_row v_r0_rowMany v_r0_seed r0_things r0_figures r0_kinds (r0_hampers (Int32.toNatClampNeg x1)) q_9 hc_9
        refine k_goIp hA hW [0, 1, 3] rfl rfl (k_runV C hA hW mw_M_allDear mv_M_allDear (ct_9.2 _) [0, 1, 3] rfl rfl 0 rfl rfl qm_M_201 ⟨Nat.le_of_ble_eq_true rfl, Nat.le_of_ble_eq_true rfl, Nat.zero_le _, Nat.zero_le _⟩ rfl rfl (Nat.le_of_ble_eq_true rfl) hl.1 d_M_bet_39) (fun H locs hW => ?_)
        refine lv_istore_n (lv' := [(3, .int q_9), (0, .ref a_r0), (1, .int x1), (2, .int x2)]) hx hb d_M_bet_42 rfl hl (by decide) rfl (fun ls hl => ?_)
        refine lv_aload_n hx hb d_M_bet_43 rfl (lv_at hl 1 rfl) ?_
        refine lv_aload_n hx hb d_M_bet_44 rfl (lv_at hl 1 rfl) ?_
        refine k_get i_M C hW 0 rfl rfl 5 (by decide) qf_M_19 rfl rfl d_M_bet_45 ?_
        refine lv_iload_n hx hb d_M_bet_48 rfl (lv_at hl 3 rfl) ?_
        obtain ⟨h_10, hr⟩ := ck_some hr
        refine k_iald C hW 2 rfl h_10 d_M_bet_49 ?_
        obtain ⟨q_11, hc_11, hr⟩ := ob hr
        have ct_11 := C_M_allDear l D cI cS a_r0 a_r0_figures a_r0_kinds v_r0_weights (Value.int r0_days) (Value.ref a_r0_hampers) v_r0_wants0 v_r0_left0 v_r0_done0 (Value.int 0) (Value.ref a_r0_refusals) v_r0_letters v_r0_letterMany v_r0_at v_r0_isBad v_r0_statements v_r0_placeIn v_r0_letterOf v_r0_told v_r0_kept v_r0_imaged v_r0_hasImage v_r0_place0 v_r0_isTaking v_r0_keptIn v_r0_turns0 v_r0_turnOf v_r0_turned v_r0_order0 v_r0_likely0 v_r0_leftThen v_r0_row v_r0_rowMany v_r0_seed r0_things r0_figures r0_kinds (r0_hampers (Int32.toNatClampNeg x2)) q_11 hc_11
        refine k_goIp hA hW [0, 1, 3] rfl rfl (k_runV C hA hW mw_M_allDear mv_M_allDear (ct_11.2 _) [0, 1, 3] rfl rfl 0 rfl rfl qm_M_201 ⟨Nat.le_of_ble_eq_true rfl, Nat.le_of_ble_eq_true rfl, Nat.zero_le _, Nat.zero_le _⟩ rfl rfl (Nat.le_of_ble_eq_true rfl) hl.1 d_M_bet_50) (fun H locs hW => ?_)
        refine lv_istore (lv' := [(4, .int q_11), (3, .int q_9), (0, .ref a_r0), (1, .int x1), (2, .int x2)]) hx hb d_M_bet_53 hl (by decide) rfl (fun ls hl => ?_)
        refine lv_iconst (v := 0) hx hb d_M_bet_55 (by decide) ?_
        refine lv_istore (lv' := [(5, .int 0), (4, .int q_11), (3, .int q_9), (0, .ref a_r0), (1, .int x1), (2, .int x2)]) hx hb d_M_bet_56 hl (by decide) rfl (fun ls hl => ?_)
        obtain ⟨ex_12, hw_12, hk_12⟩ := ob hr
        have hx_12 : ∀ (e_12 : Unit), Sum.inl e_12 = ex_12 → ∀ (H : Heap) (locs : List Loc) (ls : Array Slot), wd A s.heap D (w_M_bet cI a_r0 a_r0_figures a_r0_hampers a_r0_kinds a_r0_refusals v_r0_weights v_r0_wants0 v_r0_left0 v_r0_done0 v_r0_letters v_r0_letterMany v_r0_at v_r0_isBad v_r0_statements v_r0_placeIn v_r0_letterOf v_r0_told v_r0_kept v_r0_imaged v_r0_hasImage v_r0_place0 v_r0_isTaking v_r0_keptIn v_r0_turns0 v_r0_turnOf v_r0_turned v_r0_order0 v_r0_likely0 v_r0_leftThen v_r0_row v_r0_rowMany v_r0_seed r0_days r0_things 0 r0_figures r0_hampers r0_kinds r0_refusals) H locs → lv_has ls 8 [] → W p l e (rmd 2) s m ([.ref a_r0, .int x1, .int x2] : List Value).toArray below meth c H locs 0 0 Q (F0 m 141 ls []) := by
          intro e_12 hE H locs ls hW hl
          have hr := sx_l hE.symm hk_12
          refine lv_bipush (v := (-9)) hx hb d_M_bet_141 (by decide) ?_
          obtain rfl := Option.some.inj hr
          rw [hQ]; exact k_iret C hret hW d_M_bet_143
        have hl_12 : ∀ (k : Nat) (y5_12 : Int32), wh (fun (s : (Int32)) => F_M_bet_L58 r0_refusals q_9 q_11 s) k y5_12 = some ex_12 → ∀ (H : Heap) (locs : List Loc) (ls : Array Slot), wd A s.heap D (w_M_bet cI a_r0 a_r0_figures a_r0_hampers a_r0_kinds a_r0_refusals v_r0_weights v_r0_wants0 v_r0_left0 v_r0_done0 v_r0_letters v_r0_letterMany v_r0_at v_r0_isBad v_r0_statements v_r0_placeIn v_r0_letterOf v_r0_told v_r0_kept v_r0_imaged v_r0_hasImage v_r0_place0 v_r0_isTaking v_r0_keptIn v_r0_turns0 v_r0_turnOf v_r0_turned v_r0_order0 v_r0_likely0 v_r0_leftThen v_r0_row v_r0_rowMany v_r0_seed r0_days r0_things 0 r0_figures r0_hampers r0_kinds r0_refusals) H locs → lv_has ls 8 [(4, .int q_11), (3, .int q_9), (5, .int y5_12)] → W p l e (rmd 2) s m ([.ref a_r0, .int x1, .int x2] : List Value).toArray below meth c H locs 0 0 Q (F0 m 58 ls []) := by
          intro k
          induction k with
          | zero => intro y5_12 hw; exact absurd hw wh_0
          | succ k ih_12 =>
            intro y5_12 hw H locs ls hW hl
            obtain ⟨z_12, hr, hz1_12, hz2_12⟩ := wh_s hw
            have hr : F_M_bet_L58 r0_refusals q_9 q_11 y5_12 = some z_12 := hr
            unfold F_M_bet_L58 at hr
            refine lv_iload hx hb d_M_bet_58 (lv_at hl 2 rfl) ?_
            refine lv_iconst (v := 4) hx hb d_M_bet_60 (by decide) ?_
            refine lv_icmp_ge (tgt := 141) hx hb d_M_bet_61 (by decide) (fun c_13 => ?_) (fun c_13 => ?_)
            · replace hr := ip c_13 hr
              exact hx_12 _ (hz2_12 _ (Option.some.inj hr).symm) _ _ _ hW (lv_sub hl [] rfl)
            · replace hr := iN c_13 hr
              refine lv_iload hx hb d_M_bet_64 (lv_at hl 2 rfl) ?_
              refine lv_iconst (v := 2) hx hb d_M_bet_66 (by decide) ?_
              refine lv_idiv hx hb d_M_bet_67 (by decide) ?_
              refine lv_istore (lv' := [(6, .int (y5_12 / (2 : Int32))), (4, .int q_11), (3, .int q_9), (5, .int y5_12)]) hx hb d_M_bet_68 hl (by decide) rfl (fun ls hl => ?_)
              refine lv_iload hx hb d_M_bet_70 (lv_at hl 3 rfl) ?_
              refine lv_iconst (v := 2) hx hb d_M_bet_72 (by decide) ?_
              refine lv_irem hx hb d_M_bet_73 (by decide) ?_
              refine lv_istore (lv' := [(7, .int (y5_12 - y5_12 / (2 : Int32) * (2 : Int32))), (6, .int (y5_12 / (2 : Int32))), (4, .int q_11), (3, .int q_9), (5, .int y5_12)]) hx hb d_M_bet_74 hl (by decide) rfl (fun ls hl => ?_)
              refine lv_iconst (v := 1) hx hb d_M_bet_76 (by decide) ?_
              refine lv_iload hx hb d_M_bet_77 (lv_at hl 1 rfl) ?_
              refine lv_isub hx hb d_M_bet_79 ?_
              refine lv_iload hx hb d_M_bet_80 (lv_at hl 0 rfl) ?_
              refine lv_iload_n hx hb d_M_bet_82 rfl (lv_at hl 3 rfl) ?_
              refine lv_iload hx hb d_M_bet_83 (lv_at hl 2 rfl) ?_
              obtain ⟨q_14, hc_14, hr⟩ := ob hr
              have ct_14 := C_M_winBy l D cI cS ((1 : Int32) - (y5_12 / (2 : Int32))) (y5_12 - y5_12 / (2 : Int32) * (2 : Int32)) q_9 q_11 q_14 hc_14
              refine k_goIp hA hW [] rfl rfl (k_runS C hA hW mw_M_winBy ms_M_winBy (ct_14.2 _) [] rfl rfl qm_M_258 ⟨Nat.le_of_ble_eq_true rfl, Nat.le_of_ble_eq_true rfl, Nat.zero_le _, Nat.zero_le _⟩ rfl rfl (Nat.le_of_ble_eq_true rfl) hl.1 d_M_bet_85) (fun H locs hW => ?_)
              refine lv_iload hx hb d_M_bet_88 (lv_at hl 1 rfl) ?_
              refine lv_iload hx hb d_M_bet_90 (lv_at hl 0 rfl) ?_
              refine lv_iload_n hx hb d_M_bet_92 rfl (lv_at hl 3 rfl) ?_
              refine lv_iload hx hb d_M_bet_93 (lv_at hl 2 rfl) ?_
              obtain ⟨q_15, hc_15, hr⟩ := ob hr
              have ct_15 := C_M_winBy l D cI cS (y5_12 / (2 : Int32)) (y5_12 - y5_12 / (2 : Int32) * (2 : Int32)) q_9 q_11 q_15 hc_15
              refine k_goIp hA hW [] rfl rfl (k_runS C hA hW mw_M_winBy ms_M_winBy (ct_15.2 _) [] rfl rfl qm_M_258 ⟨Nat.le_of_ble_eq_true rfl, Nat.le_of_ble_eq_true rfl, Nat.zero_le _, Nat.zero_le _⟩ rfl rfl (Nat.le_of_ble_eq_true rfl) hl.1 d_M_bet_95) (fun H locs hW => ?_)
              refine lv_icmp_gt (tgt := 135) hx hb d_M_bet_98 (by decide) (fun c_16 => ?_) (fun c_16 => ?_)
              · replace hr := ip c_16 hr
                refine lv_iinc (v := (y5_12 + 1)) (lv' := [(5, .int (y5_12 + 1)), (7, .int (y5_12 - y5_12 / (2 : Int32) * (2 : Int32))), (6, .int (y5_12 / (2 : Int32))), (4, .int q_11), (3, .int q_9)]) hx hb d_M_bet_135 hl (k := 4) rfl rfl (by decide) rfl (fun ls hl => ?_)
                refine lv_goto (tgt := 58) hx hb d_M_bet_138 (by decide) ?_
                exact ih_12 (y5_12 + 1) (hz1_12 _ (Option.some.inj hr).symm) _ _ _ hW (lv_sub hl [3, 4, 0] rfl)
              · replace hr := iN c_16 hr
                refine lv_iconst (v := 1) hx hb d_M_bet_101 (by decide) ?_
                refine lv_iload hx hb d_M_bet_102 (lv_at hl 0 rfl) ?_
                refine lv_isub hx hb d_M_bet_104 ?_
                refine lv_iload hx hb d_M_bet_105 (lv_at hl 1 rfl) ?_
                refine lv_iload_n hx hb d_M_bet_107 rfl (lv_at hl 3 rfl) ?_
                refine lv_iload hx hb d_M_bet_108 (lv_at hl 2 rfl) ?_
                obtain ⟨q_17, hc_17, hr⟩ := ob hr
                have ct_17 := C_M_winBy l D cI cS ((1 : Int32) - (y5_12 - y5_12 / (2 : Int32) * (2 : Int32))) (y5_12 / (2 : Int32)) q_9 q_11 q_17 hc_17
                refine k_goIp hA hW [] rfl rfl (k_runS C hA hW mw_M_winBy ms_M_winBy (ct_17.2 _) [] rfl rfl qm_M_258 ⟨Nat.le_of_ble_eq_true rfl, Nat.le_of_ble_eq_true rfl, Nat.zero_le _, Nat.zero_le _⟩ rfl rfl (Nat.le_of_ble_eq_true rfl) hl.1 d_M_bet_110) (fun H locs hW => ?_)
                refine lv_iload hx hb d_M_bet_113 (lv_at hl 0 rfl) ?_
                refine lv_iload hx hb d_M_bet_115 (lv_at hl 1 rfl) ?_
                refine lv_iload_n hx hb d_M_bet_117 rfl (lv_at hl 3 rfl) ?_
                refine lv_iload hx hb d_M_bet_118 (lv_at hl 2 rfl) ?_
                obtain ⟨q_18, hc_18, hr⟩ := ob hr
                have ct_18 := C_M_winBy l D cI cS (y5_12 - y5_12 / (2 : Int32) * (2 : Int32)) (y5_12 / (2 : Int32)) q_9 q_11 q_18 hc_18
                refine k_goIp hA hW [] rfl rfl (k_runS C hA hW mw_M_winBy ms_M_winBy (ct_18.2 _) [] rfl rfl qm_M_258 ⟨Nat.le_of_ble_eq_true rfl, Nat.le_of_ble_eq_true rfl, Nat.zero_le _, Nat.zero_le _⟩ rfl rfl (Nat.le_of_ble_eq_true rfl) hl.1 d_M_bet_120) (fun H locs hW => ?_)
                refine lv_icmp_gt (tgt := 135) hx hb d_M_bet_123 (by decide) (fun c_19 => ?_) (fun c_19 => ?_)
                · replace hr := ip c_19 hr
                  refine lv_iinc (v := (y5_12 + 1)) (lv' := [(5, .int (y5_12 + 1)), (7, .int (y5_12 - y5_12 / (2 : Int32) * (2 : Int32))), (6, .int (y5_12 / (2 : Int32))), (4, .int q_11), (3, .int q_9)]) hx hb d_M_bet_135 hl (k := 4) rfl rfl (by decide) rfl (fun ls hl => ?_)
                  refine lv_goto (tgt := 58) hx hb d_M_bet_138 (by decide) ?_
                  exact ih_12 (y5_12 + 1) (hz1_12 _ (Option.some.inj hr).symm) _ _ _ hW (lv_sub hl [3, 4, 0] rfl)
                · replace hr := iN c_19 hr
                  refine lv_bipush (v := 10) hx hb d_M_bet_126 (by decide) ?_
                  refine lv_iload hx hb d_M_bet_128 (lv_at hl 1 rfl) ?_
                  refine lv_imul hx hb d_M_bet_130 ?_
                  refine lv_iload hx hb d_M_bet_131 (lv_at hl 0 rfl) ?_
                  refine lv_iadd hx hb d_M_bet_133 ?_
                  have hr := sx_r (hz2_12 _ (Option.some.inj hr).symm).symm hk_12
                  obtain rfl := Option.some.inj hr
                  rw [hQ]; exact k_iret C hret hW d_M_bet_134
        exact hl_12 _ 0 hw_12 _ _ _ hW (lv_sub hl [1, 2, 0] rfl)
      · replace hr := ip c_7 hr
        exact hJ_3 () hr _ _ _ hW (lv_sub hl [0] rfl)
def w_M_carry_imaged (cI : ClassId) (a_r0 : Nat) (a_r0_imaged : Nat) (v_r0_weights v_r0_things v_r0_kinds v_r0_figures v_r0_days v_r0_hampers v_r0_wants0 v_r0_left0 v_r0_done0 v_r0_thrown v_r0_refusals v_r0_letters v_r0_letterMany v_r0_at v_r0_isBad v_r0_statements v_r0_placeIn v_r0_letterOf v_r0_told v_r0_kept v_r0_hasImage v_r0_turns0 v_r0_turnOf v_r0_turned v_r0_order0 v_r0_likely0 v_r0_leftThen v_r0_row v_r0_rowMany v_r0_seed : Value) (r0_isTaking : Int32) (r0_place0 : Int32) (r0_imaged : Nat → Int32) : va_W := [(a_r0, .inr (9, [v_r0_weights, v_r0_things, v_r0_kinds, v_r0_figures, v_r0_days, v_r0_hampers, v_r0_wants0, v_r0_left0, v_r0_done0, v_r0_thrown, v_r0_refusals, v_r0_letters, v_r0_letterMany, v_r0_at, v_r0_isBad, v_r0_statements, v_r0_placeIn, v_r0_letterOf, v_r0_told, v_r0_kept, .ref a_r0_imaged, v_r0_hasImage, .int r0_place0, .int r0_isTaking, .ref a_r0_imaged, v_r0_turns0, v_r0_turnOf, v_r0_turned, v_r0_order0, v_r0_likely0, v_r0_leftThen, v_r0_row, v_r0_rowMany, v_r0_seed])), (a_r0_imaged, .inl (cI, 41, .inl r0_imaged))]
def F_M_carry_imaged_J17_2 (r0_place0 : Int32) (r0_imaged_2 : Nat → Int32) : Option (Int32 × (Int32) × (Nat → Int32)) :=
  (ck ((r0_place0 + 1) - 1) 41 (some ((r0_imaged_2 (Int32.toNatClampNeg ((r0_place0 + 1) - 1))), (r0_place0 + 1), r0_imaged_2)))
def F_M_carry_imaged (r0_isTaking : Int32) (r0_place0 : Int32) (r0_imaged : Nat → Int32) (x1 : Int32) : Option (Int32 × (Int32) × (Nat → Int32)) :=
  (if r0_isTaking = 0 then (F_M_carry_imaged_J17_2 r0_place0 r0_imaged) else (ck r0_place0 41 (F_M_carry_imaged_J17_2 r0_place0 (upd r0_imaged (Int32.toNatClampNeg r0_place0) x1))))
set_option maxHeartbeats 4000000 in
set_option maxRecDepth 100000 in
theorem C_M_carry_imaged (l : Launch) (D : va_G) (cI cS : ClassId) (a_r0 : Nat) (a_r0_imaged : Nat) (v_r0_weights v_r0_things v_r0_kinds v_r0_figures v_r0_days v_r0_hampers v_r0_wants0 v_r0_left0 v_r0_done0 v_r0_thrown v_r0_refusals v_r0_letters v_r0_letterMany v_r0_at v_r0_isBad v_r0_statements v_r0_placeIn v_r0_letterOf v_r0_told v_r0_kept v_r0_hasImage v_r0_turns0 v_r0_turnOf v_r0_turned v_r0_order0 v_r0_likely0 v_r0_leftThen v_r0_row v_r0_rowMany v_r0_seed : Value) (r0_isTaking : Int32) (r0_place0 : Int32) (r0_imaged : Nat → Int32) (x1 : Int32) (o : Int32 × (Int32) × (Nat → Int32)) (hr : F_M_carry_imaged r0_isTaking r0_place0 r0_imaged x1 = some o) : ctI l y_M_carry (Cond.code y_M_carry b_M_carry 2 (some FieldType.int)) (rmd 0) D (kTy cI cS) [.ref a_r0, .int x1] (w_M_carry_imaged cI a_r0 a_r0_imaged v_r0_weights v_r0_things v_r0_kinds v_r0_figures v_r0_days v_r0_hampers v_r0_wants0 v_r0_left0 v_r0_done0 v_r0_thrown v_r0_refusals v_r0_letters v_r0_letterMany v_r0_at v_r0_isBad v_r0_statements v_r0_placeIn v_r0_letterOf v_r0_told v_r0_kept v_r0_hasImage v_r0_turns0 v_r0_turnOf v_r0_turned v_r0_order0 v_r0_likely0 v_r0_leftThen v_r0_row v_r0_rowMany v_r0_seed r0_isTaking r0_place0 r0_imaged) (w_M_carry_imaged cI a_r0 a_r0_imaged v_r0_weights v_r0_things v_r0_kinds v_r0_figures v_r0_days v_r0_hampers v_r0_wants0 v_r0_left0 v_r0_done0 v_r0_thrown v_r0_refusals v_r0_letters v_r0_letterMany v_r0_at v_r0_isBad v_r0_statements v_r0_placeIn v_r0_letterOf v_r0_told v_r0_kept v_r0_hasImage v_r0_turns0 v_r0_turnOf v_r0_turned v_r0_order0 v_r0_likely0 v_r0_leftThen v_r0_row v_r0_rowMany v_r0_seed r0_isTaking o.2.1 o.2.2) o.1 := by
  unfold F_M_carry_imaged at hr
  refine ⟨rfl, fun sz => ct_of (w0 := (w_M_carry_imaged cI a_r0 a_r0_imaged v_r0_weights v_r0_things v_r0_kinds v_r0_figures v_r0_days v_r0_hampers v_r0_wants0 v_r0_left0 v_r0_done0 v_r0_thrown v_r0_refusals v_r0_letters v_r0_letterMany v_r0_at v_r0_isBad v_r0_statements v_r0_placeIn v_r0_letterOf v_r0_told v_r0_kept v_r0_hasImage v_r0_turns0 v_r0_turnOf v_r0_turned v_r0_order0 v_r0_likely0 v_r0_leftThen v_r0_row v_r0_rowMany v_r0_seed r0_isTaking r0_place0 r0_imaged)) (Qc := fun A => qI D (w_M_carry_imaged cI a_r0 a_r0_imaged v_r0_weights v_r0_things v_r0_kinds v_r0_figures v_r0_days v_r0_hampers v_r0_wants0 v_r0_left0 v_r0_done0 v_r0_thrown v_r0_refusals v_r0_letters v_r0_letterMany v_r0_at v_r0_isBad v_r0_statements v_r0_placeIn v_r0_letterOf v_r0_told v_r0_kept v_r0_hasImage v_r0_turns0 v_r0_turnOf v_r0_turned v_r0_order0 v_r0_likely0 v_r0_leftThen v_r0_row v_r0_rowMany v_r0_seed r0_isTaking o.2.1 o.2.2) o.1 A) rfl (Nat.le_of_ble_eq_true rfl) ?_ sz⟩
  intro p e s m below meth c A hA C hret ls hl hW
  have C : cx p s m ([.ref a_r0, .int x1] : List Value).toArray meth c b_M_carry 2 R_M D (kTy cI cS) (Cond.code y_M_carry b_M_carry 2 (some FieldType.int)) := C
  obtain ⟨hx, hb, hml, hown, hts, hK, hlk, hN⟩ := id C
  have hl : lv_has ls 2 [(0, .ref a_r0), (1, .int x1)] := hl
  obtain ⟨Q, hQ⟩ : ∃ Q, Q = MQ below (qI D (w_M_carry_imaged cI a_r0 a_r0_imaged v_r0_weights v_r0_things v_r0_kinds v_r0_figures v_r0_days v_r0_hampers v_r0_wants0 v_r0_left0 v_r0_done0 v_r0_thrown v_r0_refusals v_r0_letters v_r0_letterMany v_r0_at v_r0_isBad v_r0_statements v_r0_placeIn v_r0_letterOf v_r0_told v_r0_kept v_r0_hasImage v_r0_turns0 v_r0_turnOf v_r0_turned v_r0_order0 v_r0_likely0 v_r0_leftThen v_r0_row v_r0_rowMany v_r0_seed r0_isTaking o.2.1 o.2.2) o.1 A) ([.ref a_r0, .int x1] : List Value).toArray s 0 0 A := ⟨_, rfl⟩
  rw [← hQ]
  refine lv_aload_n hx hb d_M_carry_0 rfl (lv_at hl 0 rfl) ?_
  refine k_get i_M C hW 0 rfl rfl 23 (by decide) qf_M_177 rfl rfl d_M_carry_1 ?_
  have hJ_2 : ∀ (r0_imaged_2 : Nat → Int32), F_M_carry_imaged_J17_2 r0_place0 r0_imaged_2 = some o → ∀ (H : Heap) (locs : List Loc) (ls : Array Slot), wd A s.heap D (w_M_carry_imaged cI a_r0 a_r0_imaged v_r0_weights v_r0_things v_r0_kinds v_r0_figures v_r0_days v_r0_hampers v_r0_wants0 v_r0_left0 v_r0_done0 v_r0_thrown v_r0_refusals v_r0_letters v_r0_letterMany v_r0_at v_r0_isBad v_r0_statements v_r0_placeIn v_r0_letterOf v_r0_told v_r0_kept v_r0_hasImage v_r0_turns0 v_r0_turnOf v_r0_turned v_r0_order0 v_r0_likely0 v_r0_leftThen v_r0_row v_r0_rowMany v_r0_seed r0_isTaking r0_place0 r0_imaged_2) H locs → lv_has ls 2 [(0, .ref a_r0)] → W p l e (rmd 0) s m ([.ref a_r0, .int x1] : List Value).toArray below meth c H locs 0 0 Q (F0 m 17 ls []) := by
    intro r0_imaged_2 hr H locs ls hW hl
    unfold F_M_carry_imaged_J17_2 at hr
    refine lv_aload_n hx hb d_M_carry_17 rfl (lv_at hl 0 rfl) ?_
    refine lv_dup hx hb d_M_carry_18 rfl ?_
    refine k_get i_M C hW 0 rfl rfl 22 (by decide) qf_M_183 rfl rfl d_M_carry_19 ?_
    refine lv_iconst (v := 1) hx hb d_M_carry_22 (by decide) ?_
    refine lv_iadd hx hb d_M_carry_23 ?_
    refine k_put i_M t_M_ok n_M C hW 0 rfl rfl 22 (by decide) qf_M_183 rfl rfl (ty := .int) rfl rfl rfl (Nat.le_of_ble_eq_true rfl) (ws' := (w_M_carry_imaged cI a_r0 a_r0_imaged v_r0_weights v_r0_things v_r0_kinds v_r0_figures v_r0_days v_r0_hampers v_r0_wants0 v_r0_left0 v_r0_done0 v_r0_thrown v_r0_refusals v_r0_letters v_r0_letterMany v_r0_at v_r0_isBad v_r0_statements v_r0_placeIn v_r0_letterOf v_r0_told v_r0_kept v_r0_hasImage v_r0_turns0 v_r0_turnOf v_r0_turned v_r0_order0 v_r0_likely0 v_r0_leftThen v_r0_row v_r0_rowMany v_r0_seed r0_isTaking (r0_place0 + 1) r0_imaged_2)) rfl d_M_carry_24 (fun H locs hW => ?_)
    refine lv_aload_n hx hb d_M_carry_27 rfl (lv_at hl 0 rfl) ?_
    refine k_get i_M C hW 0 rfl rfl 24 (by decide) qf_M_180 rfl rfl d_M_carry_28 ?_
    refine lv_aload_n hx hb d_M_carry_31 rfl (lv_at hl 0 rfl) ?_
    refine k_get i_M C hW 0 rfl rfl 22 (by decide) qf_M_183 rfl rfl d_M_carry_32 ?_
    refine lv_iconst (v := 1) hx hb d_M_carry_35 (by decide) ?_
    refine lv_isub hx hb d_M_carry_36 ?_
    obtain ⟨h_3, hr⟩ := ck_some hr
    refine k_iald C hW 1 rfl h_3 d_M_carry_37 ?_
    obtain rfl := Option.some.inj hr
    rw [hQ]; exact k_iret C hret hW d_M_carry_38
  refine lv_if_eq (tgt := 17) hx hb d_M_carry_4 (by decide) (fun c_1 => ?_) (fun c_1 => ?_)
  · replace hr := ip c_1 hr
    exact hJ_2 r0_imaged hr _ _ _ hW (lv_sub hl [0] rfl)
  · replace hr := iN c_1 hr
    refine lv_aload_n hx hb d_M_carry_7 rfl (lv_at hl 0 rfl) ?_
    refine k_get i_M C hW 0 rfl rfl 24 (by decide) qf_M_180 rfl rfl d_M_carry_8 ?_
    refine lv_aload_n hx hb d_M_carry_11 rfl (lv_at hl 0 rfl) ?_
    refine k_get i_M C hW 0 rfl rfl 22 (by decide) qf_M_183 rfl rfl d_M_carry_12 ?_
    refine lv_iload_n hx hb d_M_carry_15 rfl (lv_at hl 1 rfl) ?_
    obtain ⟨h_4, hr⟩ := ck_some hr
    refine k_iast C hW 1 rfl h_4 (ws' := (w_M_carry_imaged cI a_r0 a_r0_imaged v_r0_weights v_r0_things v_r0_kinds v_r0_figures v_r0_days v_r0_hampers v_r0_wants0 v_r0_left0 v_r0_done0 v_r0_thrown v_r0_refusals v_r0_letters v_r0_letterMany v_r0_at v_r0_isBad v_r0_statements v_r0_placeIn v_r0_letterOf v_r0_told v_r0_kept v_r0_hasImage v_r0_turns0 v_r0_turnOf v_r0_turned v_r0_order0 v_r0_likely0 v_r0_leftThen v_r0_row v_r0_rowMany v_r0_seed r0_isTaking r0_place0 (upd r0_imaged (Int32.toNatClampNeg r0_place0) x1))) rfl d_M_carry_16 (fun H locs hW => ?_)
    exact hJ_2 (upd r0_imaged (Int32.toNatClampNeg r0_place0) x1) hr _ _ _ hW (lv_sub hl [0] rfl)
def w_M_carryAll_imaged (cI : ClassId) (a_r0 : Nat) (a_r0_figures : Nat) (a_r0_hampers : Nat) (a_r0_imaged : Nat) (a_r0_kinds : Nat) (a_r0_left0 : Nat) (a_r0_wants0 : Nat) (a_r0_weights : Nat) (v_r0_thrown v_r0_refusals v_r0_letters v_r0_letterMany v_r0_at v_r0_isBad v_r0_statements v_r0_placeIn v_r0_letterOf v_r0_told v_r0_kept v_r0_hasImage v_r0_keptIn v_r0_turns0 v_r0_turnOf v_r0_turned v_r0_order0 v_r0_likely0 v_r0_leftThen v_r0_row v_r0_rowMany v_r0_seed : Value) (r0_days : Int32) (r0_done0 : Int32) (r0_isTaking : Int32) (r0_place0 : Int32) (r0_things : Int32) (r0_figures : Nat → Int32) (r0_hampers : Nat → Int32) (r0_imaged : Nat → Int32) (r0_kinds : Nat → Int32) (r0_left0 : Nat → Int32) (r0_wants0 : Nat → Int32) (r0_weights : Nat → Int32) : va_W := [(a_r0, .inr (9, [.ref a_r0_weights, .int r0_things, .ref a_r0_kinds, .ref a_r0_figures, .int r0_days, .ref a_r0_hampers, .ref a_r0_wants0, .ref a_r0_left0, .int r0_done0, v_r0_thrown, v_r0_refusals, v_r0_letters, v_r0_letterMany, v_r0_at, v_r0_isBad, v_r0_statements, v_r0_placeIn, v_r0_letterOf, v_r0_told, v_r0_kept, .ref a_r0_imaged, v_r0_hasImage, .int r0_place0, .int r0_isTaking, v_r0_keptIn, v_r0_turns0, v_r0_turnOf, v_r0_turned, v_r0_order0, v_r0_likely0, v_r0_leftThen, v_r0_row, v_r0_rowMany, v_r0_seed])), (a_r0_figures, .inl (cI, 8, .inl r0_figures)), (a_r0_hampers, .inl (cI, 8, .inl r0_hampers)), (a_r0_imaged, .inl (cI, 41, .inl r0_imaged)), (a_r0_kinds, .inl (cI, 8, .inl r0_kinds)), (a_r0_left0, .inl (cI, 4, .inl r0_left0)), (a_r0_wants0, .inl (cI, 4, .inl r0_wants0)), (a_r0_weights, .inl (cI, 6, .inl r0_weights))]
def F_M_carryAll_imaged_L53 (x2 : Int32) (y3_5 : Int32) (r0_place0_5 : Int32) (r0_imaged_5 : Nat → Int32) (r0_weights_5 : Nat → Int32) : Option (((Int32) × (Int32) × (Nat → Int32) × (Nat → Int32)) ⊕ ((Int32) × (Nat → Int32) × (Nat → Int32))) :=
  (if (6 : Int32) ≤ y3_5 then (some (.inr (r0_place0_5, r0_imaged_5, r0_weights_5))) else (ck y3_5 6 ((F_M_carry_imaged x2 r0_place0_5 r0_imaged_5 (r0_weights_5 (Int32.toNatClampNeg y3_5))).bind (fun q_8 => (ck y3_5 6 (some (.inl ((y3_5 + 1), q_8.2.1, q_8.2.2, (upd r0_weights_5 (Int32.toNatClampNeg y3_5) q_8.1)))))))))
def F_M_carryAll_imaged_L83 (x2 : Int32) (y3_10 : Int32) (r0_place0_10 : Int32) (r0_figures_10 : Nat → Int32) (r0_hampers_10 : Nat → Int32) (r0_imaged_10 : Nat → Int32) (r0_kinds_10 : Nat → Int32) : Option (((Int32) × (Int32) × (Nat → Int32) × (Nat → Int32) × (Nat → Int32) × (Nat → Int32)) ⊕ ((Int32) × (Nat → Int32) × (Nat → Int32) × (Nat → Int32) × (Nat → Int32))) :=
  (if (8 : Int32) ≤ y3_10 then (some (.inr (r0_place0_10, r0_figures_10, r0_hampers_10, r0_imaged_10, r0_kinds_10))) else (ck y3_10 8 ((F_M_carry_imaged x2 r0_place0_10 r0_imaged_10 (r0_kinds_10 (Int32.toNatClampNeg y3_10))).bind (fun q_13 => (ck y3_10 8 (ck y3_10 8 ((F_M_carry_imaged x2 q_13.2.1 q_13.2.2 (r0_figures_10 (Int32.toNatClampNeg y3_10))).bind (fun q_16 => (ck y3_10 8 (ck y3_10 8 ((F_M_carry_imaged x2 q_16.2.1 q_16.2.2 (r0_hampers_10 (Int32.toNatClampNeg y3_10))).bind (fun q_19 => (ck y3_10 8 (some (.inl ((y3_10 + 1), q_19.2.1, (upd r0_figures_10 (Int32.toNatClampNeg y3_10) q_16.1), (upd r0_hampers_10 (Int32.toNatClampNeg y3_10) q_19.1), q_19.2.2, (upd r0_kinds_10 (Int32.toNatClampNeg y3_10) q_13.1)))))))))))))))))
def F_M_carryAll_imaged_L145 (x2 : Int32) (y3_21 : Int32) (r0_place0_21 : Int32) (r0_imaged_21 : Nat → Int32) (r0_left0_21 : Nat → Int32) (r0_wants0_21 : Nat → Int32) : Option (((Int32) × (Int32) × (Nat → Int32) × (Nat → Int32) × (Nat → Int32)) ⊕ ((Int32) × (Nat → Int32) × (Nat → Int32) × (Nat → Int32))) :=
  (if (4 : Int32) ≤ y3_21 then (some (.inr (r0_place0_21, r0_imaged_21, r0_left0_21, r0_wants0_21))) else (ck y3_21 4 ((F_M_carry_imaged x2 r0_place0_21 r0_imaged_21 (r0_wants0_21 (Int32.toNatClampNeg y3_21))).bind (fun q_24 => (ck y3_21 4 (ck y3_21 4 ((F_M_carry_imaged x2 q_24.2.1 q_24.2.2 (r0_left0_21 (Int32.toNatClampNeg y3_21))).bind (fun q_27 => (ck y3_21 4 (some (.inl ((y3_21 + 1), q_27.2.1, q_27.2.2, (upd r0_left0_21 (Int32.toNatClampNeg y3_21) q_27.1), (upd r0_wants0_21 (Int32.toNatClampNeg y3_21) q_24.1)))))))))))))
def F_M_carryAll_imaged (r0_days : Int32) (r0_done0 : Int32) (r0_things : Int32) (r0_figures : Nat → Int32) (r0_hampers : Nat → Int32) (r0_imaged : Nat → Int32) (r0_kinds : Nat → Int32) (r0_left0 : Nat → Int32) (r0_wants0 : Nat → Int32) (r0_weights : Nat → Int32) (x2 : Int32) : Option ((Int32) × (Int32) × (Int32) × (Int32) × (Int32) × (Nat → Int32) × (Nat → Int32) × (Nat → Int32) × (Nat → Int32) × (Nat → Int32) × (Nat → Int32) × (Nat → Int32)) :=
  (ckz x2 ((F_M_carry_imaged x2 0 r0_imaged r0_things).bind (fun q_2 => ((F_M_carry_imaged x2 q_2.2.1 q_2.2.2 r0_days).bind (fun q_3 => ((F_M_carry_imaged x2 q_3.2.1 q_3.2.2 r0_done0).bind (fun q_4 => ((wh (fun (s : (Int32) × (Int32) × (Nat → Int32) × (Nat → Int32)) => F_M_carryAll_imaged_L53 x2 s.1 s.2.1 s.2.2.1 s.2.2.2) 400 ((0 : Int32), q_4.2.1, q_4.2.2, r0_weights)).bind (fun e_5 => ((wh (fun (s : (Int32) × (Int32) × (Nat → Int32) × (Nat → Int32) × (Nat → Int32) × (Nat → Int32)) => F_M_carryAll_imaged_L83 x2 s.1 s.2.1 s.2.2.1 s.2.2.2.1 s.2.2.2.2.1 s.2.2.2.2.2) 400 ((0 : Int32), e_5.1, r0_figures, r0_hampers, e_5.2.1, r0_kinds)).bind (fun e_10 => ((wh (fun (s : (Int32) × (Int32) × (Nat → Int32) × (Nat → Int32) × (Nat → Int32)) => F_M_carryAll_imaged_L145 x2 s.1 s.2.1 s.2.2.1 s.2.2.2.1 s.2.2.2.2) 400 ((0 : Int32), e_10.1, e_10.2.2.2.1, r0_left0, r0_wants0)).bind (fun e_21 => (some (q_3.1, q_4.1, x2, e_21.1, q_2.1, e_10.2.1, e_10.2.2.1, e_21.2.1, e_10.2.2.2.2, e_21.2.2.1, e_21.2.2.2, e_5.2.2)))))))))))))))
set_option maxHeartbeats 4000000 in
set_option maxRecDepth 100000 in
theorem C_M_carryAll_imaged (l : Launch) (D : va_G) (cI cS : ClassId) (a_r0 : Nat) (a_r0_figures : Nat) (a_r0_hampers : Nat) (a_r0_imaged : Nat) (a_r0_kinds : Nat) (a_r0_left0 : Nat) (a_r0_wants0 : Nat) (a_r0_weights : Nat) (v_r0_thrown v_r0_refusals v_r0_letters v_r0_letterMany v_r0_at v_r0_isBad v_r0_statements v_r0_placeIn v_r0_letterOf v_r0_told v_r0_kept v_r0_hasImage v_r0_keptIn v_r0_turns0 v_r0_turnOf v_r0_turned v_r0_order0 v_r0_likely0 v_r0_leftThen v_r0_row v_r0_rowMany v_r0_seed : Value) (kf : Value) (hkf : kf = .ref a_r0_imaged) (r0_days : Int32) (r0_done0 : Int32) (r0_isTaking : Int32) (r0_place0 : Int32) (r0_things : Int32) (r0_figures : Nat → Int32) (r0_hampers : Nat → Int32) (r0_imaged : Nat → Int32) (r0_kinds : Nat → Int32) (r0_left0 : Nat → Int32) (r0_wants0 : Nat → Int32) (r0_weights : Nat → Int32) (x2 : Int32) (o : (Int32) × (Int32) × (Int32) × (Int32) × (Int32) × (Nat → Int32) × (Nat → Int32) × (Nat → Int32) × (Nat → Int32) × (Nat → Int32) × (Nat → Int32) × (Nat → Int32)) (hr : F_M_carryAll_imaged r0_days r0_done0 r0_things r0_figures r0_hampers r0_imaged r0_kinds r0_left0 r0_wants0 r0_weights x2 = some o) : ctV l y_M_carryAll (Cond.code y_M_carryAll b_M_carryAll 4 none) (rmd 1) D (kTy cI cS) [.ref a_r0, .ref a_r0_imaged, .int x2] (w_M_carryAll_imaged cI a_r0 a_r0_figures a_r0_hampers a_r0_imaged a_r0_kinds a_r0_left0 a_r0_wants0 a_r0_weights v_r0_thrown v_r0_refusals v_r0_letters v_r0_letterMany v_r0_at v_r0_isBad v_r0_statements v_r0_placeIn v_r0_letterOf v_r0_told v_r0_kept v_r0_hasImage v_r0_keptIn v_r0_turns0 v_r0_turnOf v_r0_turned v_r0_order0 v_r0_likely0 v_r0_leftThen v_r0_row v_r0_rowMany v_r0_seed r0_days r0_done0 r0_isTaking r0_place0 r0_things r0_figures r0_hampers r0_imaged r0_kinds r0_left0 r0_wants0 r0_weights) (w_M_carryAll_imaged cI a_r0 a_r0_figures a_r0_hampers a_r0_imaged a_r0_kinds a_r0_left0 a_r0_wants0 a_r0_weights v_r0_thrown v_r0_refusals v_r0_letters v_r0_letterMany v_r0_at v_r0_isBad v_r0_statements v_r0_placeIn v_r0_letterOf v_r0_told v_r0_kept v_r0_hasImage kf v_r0_turns0 v_r0_turnOf v_r0_turned v_r0_order0 v_r0_likely0 v_r0_leftThen v_r0_row v_r0_rowMany v_r0_seed o.1 o.2.1 o.2.2.1 o.2.2.2.1 o.2.2.2.2.1 o.2.2.2.2.2.1 o.2.2.2.2.2.2.1 o.2.2.2.2.2.2.2.1 o.2.2.2.2.2.2.2.2.1 o.2.2.2.2.2.2.2.2.2.1 o.2.2.2.2.2.2.2.2.2.2.1 o.2.2.2.2.2.2.2.2.2.2.2) := by
  unfold F_M_carryAll_imaged at hr
  subst hkf
  refine ⟨rfl, fun sz => ct_of (w0 := (w_M_carryAll_imaged cI a_r0 a_r0_figures a_r0_hampers a_r0_imaged a_r0_kinds a_r0_left0 a_r0_wants0 a_r0_weights v_r0_thrown v_r0_refusals v_r0_letters v_r0_letterMany v_r0_at v_r0_isBad v_r0_statements v_r0_placeIn v_r0_letterOf v_r0_told v_r0_kept v_r0_hasImage v_r0_keptIn v_r0_turns0 v_r0_turnOf v_r0_turned v_r0_order0 v_r0_likely0 v_r0_leftThen v_r0_row v_r0_rowMany v_r0_seed r0_days r0_done0 r0_isTaking r0_place0 r0_things r0_figures r0_hampers r0_imaged r0_kinds r0_left0 r0_wants0 r0_weights)) (Qc := fun A => qV D (w_M_carryAll_imaged cI a_r0 a_r0_figures a_r0_hampers a_r0_imaged a_r0_kinds a_r0_left0 a_r0_wants0 a_r0_weights v_r0_thrown v_r0_refusals v_r0_letters v_r0_letterMany v_r0_at v_r0_isBad v_r0_statements v_r0_placeIn v_r0_letterOf v_r0_told v_r0_kept v_r0_hasImage (.ref a_r0_imaged) v_r0_turns0 v_r0_turnOf v_r0_turned v_r0_order0 v_r0_likely0 v_r0_leftThen v_r0_row v_r0_rowMany v_r0_seed o.1 o.2.1 o.2.2.1 o.2.2.2.1 o.2.2.2.2.1 o.2.2.2.2.2.1 o.2.2.2.2.2.2.1 o.2.2.2.2.2.2.2.1 o.2.2.2.2.2.2.2.2.1 o.2.2.2.2.2.2.2.2.2.1 o.2.2.2.2.2.2.2.2.2.2.1 o.2.2.2.2.2.2.2.2.2.2.2) A) rfl (Nat.le_of_ble_eq_true rfl) ?_ sz⟩
  intro p e s m below meth c A hA C hret ls hl hW
  have C : cx p s m ([.ref a_r0, .ref a_r0_imaged, .int x2] : List Value).toArray meth c b_M_carryAll 4 R_M D (kTy cI cS) (Cond.code y_M_carryAll b_M_carryAll 4 none) := C
  obtain ⟨hx, hb, hml, hown, hts, hK, hlk, hN⟩ := id C
  have hl : lv_has ls 4 [(0, .ref a_r0), (1, .ref a_r0_imaged), (2, .int x2)] := hl
  obtain ⟨Q, hQ⟩ : ∃ Q, Q = MQ below (qV D (w_M_carryAll_imaged cI a_r0 a_r0_figures a_r0_hampers a_r0_imaged a_r0_kinds a_r0_left0 a_r0_wants0 a_r0_weights v_r0_thrown v_r0_refusals v_r0_letters v_r0_letterMany v_r0_at v_r0_isBad v_r0_statements v_r0_placeIn v_r0_letterOf v_r0_told v_r0_kept v_r0_hasImage (.ref a_r0_imaged) v_r0_turns0 v_r0_turnOf v_r0_turned v_r0_order0 v_r0_likely0 v_r0_leftThen v_r0_row v_r0_rowMany v_r0_seed o.1 o.2.1 o.2.2.1 o.2.2.2.1 o.2.2.2.2.1 o.2.2.2.2.2.1 o.2.2.2.2.2.2.1 o.2.2.2.2.2.2.2.1 o.2.2.2.2.2.2.2.2.1 o.2.2.2.2.2.2.2.2.2.1 o.2.2.2.2.2.2.2.2.2.2.1 o.2.2.2.2.2.2.2.2.2.2.2) A) ([.ref a_r0, .ref a_r0_imaged, .int x2] : List Value).toArray s 0 0 A := ⟨_, rfl⟩
  rw [← hQ]
  refine lv_aload_n hx hb d_M_carryAll_0 rfl (lv_at hl 0 rfl) ?_
  refine lv_aload_n hx hb d_M_carryAll_1 rfl (lv_at hl 1 rfl) ?_
  refine k_put i_M t_M_ok n_M C hW 0 rfl rfl 24 (by decide) qf_M_180 rfl rfl (ty := .array .int) rfl rfl rfl (Nat.le_of_ble_eq_true rfl) (ws' := (w_M_carryAll_imaged cI a_r0 a_r0_figures a_r0_hampers a_r0_imaged a_r0_kinds a_r0_left0 a_r0_wants0 a_r0_weights v_r0_thrown v_r0_refusals v_r0_letters v_r0_letterMany v_r0_at v_r0_isBad v_r0_statements v_r0_placeIn v_r0_letterOf v_r0_told v_r0_kept v_r0_hasImage (.ref a_r0_imaged) v_r0_turns0 v_r0_turnOf v_r0_turned v_r0_order0 v_r0_likely0 v_r0_leftThen v_r0_row v_r0_rowMany v_r0_seed r0_days r0_done0 r0_isTaking r0_place0 r0_things r0_figures r0_hampers r0_imaged r0_kinds r0_left0 r0_wants0 r0_weights)) rfl d_M_carryAll_2 (fun H locs hW => ?_)
  refine lv_aload_n hx hb d_M_carryAll_5 rfl (lv_at hl 0 rfl) ?_
  refine lv_iload_n hx hb d_M_carryAll_6 rfl (lv_at hl 2 rfl) ?_
  obtain ⟨h_1, hf_1, hr⟩ := ckz_some hr
  refine k_put i_M t_M_ok n_M C hW 0 rfl rfl 23 (by decide) qf_M_177 rfl rfl (ty := .boolean) rfl h_1 hf_1 (Nat.le_of_ble_eq_true rfl) (ws' := (w_M_carryAll_imaged cI a_r0 a_r0_figures a_r0_hampers a_r0_imaged a_r0_kinds a_r0_left0 a_r0_wants0 a_r0_weights v_r0_thrown v_r0_refusals v_r0_letters v_r0_letterMany v_r0_at v_r0_isBad v_r0_statements v_r0_placeIn v_r0_letterOf v_r0_told v_r0_kept v_r0_hasImage (.ref a_r0_imaged) v_r0_turns0 v_r0_turnOf v_r0_turned v_r0_order0 v_r0_likely0 v_r0_leftThen v_r0_row v_r0_rowMany v_r0_seed r0_days r0_done0 x2 r0_place0 r0_things r0_figures r0_hampers r0_imaged r0_kinds r0_left0 r0_wants0 r0_weights)) rfl d_M_carryAll_7 (fun H locs hW => ?_)
  refine lv_aload_n hx hb d_M_carryAll_10 rfl (lv_at hl 0 rfl) ?_
  refine lv_iconst (v := 0) hx hb d_M_carryAll_11 (by decide) ?_
  refine k_put i_M t_M_ok n_M C hW 0 rfl rfl 22 (by decide) qf_M_183 rfl rfl (ty := .int) rfl rfl rfl (Nat.le_of_ble_eq_true rfl) (ws' := (w_M_carryAll_imaged cI a_r0 a_r0_figures a_r0_hampers a_r0_imaged a_r0_kinds a_r0_left0 a_r0_wants0 a_r0_weights v_r0_thrown v_r0_refusals v_r0_letters v_r0_letterMany v_r0_at v_r0_isBad v_r0_statements v_r0_placeIn v_r0_letterOf v_r0_told v_r0_kept v_r0_hasImage (.ref a_r0_imaged) v_r0_turns0 v_r0_turnOf v_r0_turned v_r0_order0 v_r0_likely0 v_r0_leftThen v_r0_row v_r0_rowMany v_r0_seed r0_days r0_done0 x2 0 r0_things r0_figures r0_hampers r0_imaged r0_kinds r0_left0 r0_wants0 r0_weights)) rfl d_M_carryAll_12 (fun H locs hW => ?_)
  refine lv_aload_n hx hb d_M_carryAll_15 rfl (lv_at hl 0 rfl) ?_
  refine lv_aload_n hx hb d_M_carryAll_16 rfl (lv_at hl 0 rfl) ?_
  refine lv_aload_n hx hb d_M_carryAll_17 rfl (lv_at hl 0 rfl) ?_
  refine k_get i_M C hW 0 rfl rfl 1 (by decide) qf_M_71 rfl rfl d_M_carryAll_18 ?_
  obtain ⟨q_2, hc_2, hr⟩ := ob hr
  have ct_2 := C_M_carry_imaged l D cI cS a_r0 a_r0_imaged (Value.ref a_r0_weights) (Value.int r0_things) (Value.ref a_r0_kinds) (Value.ref a_r0_figures) (Value.int r0_days) (Value.ref a_r0_hampers) (Value.ref a_r0_wants0) (Value.ref a_r0_left0) (Value.int r0_done0) v_r0_thrown v_r0_refusals v_r0_letters v_r0_letterMany v_r0_at v_r0_isBad v_r0_statements v_r0_placeIn v_r0_letterOf v_r0_told v_r0_kept v_r0_hasImage v_r0_turns0 v_r0_turnOf v_r0_turned v_r0_order0 v_r0_likely0 v_r0_leftThen v_r0_row v_r0_rowMany v_r0_seed x2 0 r0_imaged r0_things q_2 hc_2
  refine k_goI hA hW [0, 3] rfl ct_2.1 (ws' := (w_M_carryAll_imaged cI a_r0 a_r0_figures a_r0_hampers a_r0_imaged a_r0_kinds a_r0_left0 a_r0_wants0 a_r0_weights v_r0_thrown v_r0_refusals v_r0_letters v_r0_letterMany v_r0_at v_r0_isBad v_r0_statements v_r0_placeIn v_r0_letterOf v_r0_told v_r0_kept v_r0_hasImage (.ref a_r0_imaged) v_r0_turns0 v_r0_turnOf v_r0_turned v_r0_order0 v_r0_likely0 v_r0_leftThen v_r0_row v_r0_rowMany v_r0_seed r0_days r0_done0 x2 q_2.2.1 r0_things r0_figures r0_hampers q_2.2.2 r0_kinds r0_left0 r0_wants0 r0_weights)) rfl (k_runV C hA hW mw_M_carry mv_M_carry (ct_2.2 _) [0, 3] rfl rfl 0 rfl rfl qm_M_186 ⟨Nat.le_of_ble_eq_true rfl, Nat.le_of_ble_eq_true rfl, Nat.zero_le _, Nat.zero_le _⟩ rfl rfl (Nat.le_of_ble_eq_true rfl) hl.1 d_M_carryAll_21) (fun H locs hW => ?_)
  refine k_put i_M t_M_ok n_M C hW 0 rfl rfl 1 (by decide) qf_M_71 rfl rfl (ty := .int) rfl rfl rfl (Nat.le_of_ble_eq_true rfl) (ws' := (w_M_carryAll_imaged cI a_r0 a_r0_figures a_r0_hampers a_r0_imaged a_r0_kinds a_r0_left0 a_r0_wants0 a_r0_weights v_r0_thrown v_r0_refusals v_r0_letters v_r0_letterMany v_r0_at v_r0_isBad v_r0_statements v_r0_placeIn v_r0_letterOf v_r0_told v_r0_kept v_r0_hasImage (.ref a_r0_imaged) v_r0_turns0 v_r0_turnOf v_r0_turned v_r0_order0 v_r0_likely0 v_r0_leftThen v_r0_row v_r0_rowMany v_r0_seed r0_days r0_done0 x2 q_2.2.1 q_2.1 r0_figures r0_hampers q_2.2.2 r0_kinds r0_left0 r0_wants0 r0_weights)) rfl d_M_carryAll_24 (fun H locs hW => ?_)
  refine lv_aload_n hx hb d_M_carryAll_27 rfl (lv_at hl 0 rfl) ?_
  refine lv_aload_n hx hb d_M_carryAll_28 rfl (lv_at hl 0 rfl) ?_
  refine lv_aload_n hx hb d_M_carryAll_29 rfl (lv_at hl 0 rfl) ?_
  refine k_get i_M C hW 0 rfl rfl 4 (by decide) qf_M_78 rfl rfl d_M_carryAll_30 ?_
  obtain ⟨q_3, hc_3, hr⟩ := ob hr
  have ct_3 := C_M_carry_imaged l D cI cS a_r0 a_r0_imaged (Value.ref a_r0_weights) (Value.int q_2.1) (Value.ref a_r0_kinds) (Value.ref a_r0_figures) (Value.int r0_days) (Value.ref a_r0_hampers) (Value.ref a_r0_wants0) (Value.ref a_r0_left0) (Value.int r0_done0) v_r0_thrown v_r0_refusals v_r0_letters v_r0_letterMany v_r0_at v_r0_isBad v_r0_statements v_r0_placeIn v_r0_letterOf v_r0_told v_r0_kept v_r0_hasImage v_r0_turns0 v_r0_turnOf v_r0_turned v_r0_order0 v_r0_likely0 v_r0_leftThen v_r0_row v_r0_rowMany v_r0_seed x2 q_2.2.1 q_2.2.2 r0_days q_3 hc_3
  refine k_goI hA hW [0, 3] rfl ct_3.1 (ws' := (w_M_carryAll_imaged cI a_r0 a_r0_figures a_r0_hampers a_r0_imaged a_r0_kinds a_r0_left0 a_r0_wants0 a_r0_weights v_r0_thrown v_r0_refusals v_r0_letters v_r0_letterMany v_r0_at v_r0_isBad v_r0_statements v_r0_placeIn v_r0_letterOf v_r0_told v_r0_kept v_r0_hasImage (.ref a_r0_imaged) v_r0_turns0 v_r0_turnOf v_r0_turned v_r0_order0 v_r0_likely0 v_r0_leftThen v_r0_row v_r0_rowMany v_r0_seed r0_days r0_done0 x2 q_3.2.1 q_2.1 r0_figures r0_hampers q_3.2.2 r0_kinds r0_left0 r0_wants0 r0_weights)) rfl (k_runV C hA hW mw_M_carry mv_M_carry (ct_3.2 _) [0, 3] rfl rfl 0 rfl rfl qm_M_186 ⟨Nat.le_of_ble_eq_true rfl, Nat.le_of_ble_eq_true rfl, Nat.zero_le _, Nat.zero_le _⟩ rfl rfl (Nat.le_of_ble_eq_true rfl) hl.1 d_M_carryAll_33) (fun H locs hW => ?_)
  refine k_put i_M t_M_ok n_M C hW 0 rfl rfl 4 (by decide) qf_M_78 rfl rfl (ty := .int) rfl rfl rfl (Nat.le_of_ble_eq_true rfl) (ws' := (w_M_carryAll_imaged cI a_r0 a_r0_figures a_r0_hampers a_r0_imaged a_r0_kinds a_r0_left0 a_r0_wants0 a_r0_weights v_r0_thrown v_r0_refusals v_r0_letters v_r0_letterMany v_r0_at v_r0_isBad v_r0_statements v_r0_placeIn v_r0_letterOf v_r0_told v_r0_kept v_r0_hasImage (.ref a_r0_imaged) v_r0_turns0 v_r0_turnOf v_r0_turned v_r0_order0 v_r0_likely0 v_r0_leftThen v_r0_row v_r0_rowMany v_r0_seed q_3.1 r0_done0 x2 q_3.2.1 q_2.1 r0_figures r0_hampers q_3.2.2 r0_kinds r0_left0 r0_wants0 r0_weights)) rfl d_M_carryAll_36 (fun H locs hW => ?_)
  refine lv_aload_n hx hb d_M_carryAll_39 rfl (lv_at hl 0 rfl) ?_
  refine lv_aload_n hx hb d_M_carryAll_40 rfl (lv_at hl 0 rfl) ?_
  refine lv_aload_n hx hb d_M_carryAll_41 rfl (lv_at hl 0 rfl) ?_
  refine k_get i_M C hW 0 rfl rfl 8 (by decide) qf_M_105 rfl rfl d_M_carryAll_42 ?_
  obtain ⟨q_4, hc_4, hr⟩ := ob hr
  have ct_4 := C_M_carry_imaged l D cI cS a_r0 a_r0_imaged (Value.ref a_r0_weights) (Value.int q_2.1) (Value.ref a_r0_kinds) (Value.ref a_r0_figures) (Value.int q_3.1) (Value.ref a_r0_hampers) (Value.ref a_r0_wants0) (Value.ref a_r0_left0) (Value.int r0_done0) v_r0_thrown v_r0_refusals v_r0_letters v_r0_letterMany v_r0_at v_r0_isBad v_r0_statements v_r0_placeIn v_r0_letterOf v_r0_told v_r0_kept v_r0_hasImage v_r0_turns0 v_r0_turnOf v_r0_turned v_r0_order0 v_r0_likely0 v_r0_leftThen v_r0_row v_r0_rowMany v_r0_seed x2 q_3.2.1 q_3.2.2 r0_done0 q_4 hc_4
  refine k_goI hA hW [0, 3] rfl ct_4.1 (ws' := (w_M_carryAll_imaged cI a_r0 a_r0_figures a_r0_hampers a_r0_imaged a_r0_kinds a_r0_left0 a_r0_wants0 a_r0_weights v_r0_thrown v_r0_refusals v_r0_letters v_r0_letterMany v_r0_at v_r0_isBad v_r0_statements v_r0_placeIn v_r0_letterOf v_r0_told v_r0_kept v_r0_hasImage (.ref a_r0_imaged) v_r0_turns0 v_r0_turnOf v_r0_turned v_r0_order0 v_r0_likely0 v_r0_leftThen v_r0_row v_r0_rowMany v_r0_seed q_3.1 r0_done0 x2 q_4.2.1 q_2.1 r0_figures r0_hampers q_4.2.2 r0_kinds r0_left0 r0_wants0 r0_weights)) rfl (k_runV C hA hW mw_M_carry mv_M_carry (ct_4.2 _) [0, 3] rfl rfl 0 rfl rfl qm_M_186 ⟨Nat.le_of_ble_eq_true rfl, Nat.le_of_ble_eq_true rfl, Nat.zero_le _, Nat.zero_le _⟩ rfl rfl (Nat.le_of_ble_eq_true rfl) hl.1 d_M_carryAll_45) (fun H locs hW => ?_)
  refine k_put i_M t_M_ok n_M C hW 0 rfl rfl 8 (by decide) qf_M_105 rfl rfl (ty := .int) rfl rfl rfl (Nat.le_of_ble_eq_true rfl) (ws' := (w_M_carryAll_imaged cI a_r0 a_r0_figures a_r0_hampers a_r0_imaged a_r0_kinds a_r0_left0 a_r0_wants0 a_r0_weights v_r0_thrown v_r0_refusals v_r0_letters v_r0_letterMany v_r0_at v_r0_isBad v_r0_statements v_r0_placeIn v_r0_letterOf v_r0_told v_r0_kept v_r0_hasImage (.ref a_r0_imaged) v_r0_turns0 v_r0_turnOf v_r0_turned v_r0_order0 v_r0_likely0 v_r0_leftThen v_r0_row v_r0_rowMany v_r0_seed q_3.1 q_4.1 x2 q_4.2.1 q_2.1 r0_figures r0_hampers q_4.2.2 r0_kinds r0_left0 r0_wants0 r0_weights)) rfl d_M_carryAll_48 (fun H locs hW => ?_)
  refine lv_iconst (v := 0) hx hb d_M_carryAll_51 (by decide) ?_
  refine lv_istore_n (lv' := [(3, .int 0), (0, .ref a_r0), (1, .ref a_r0_imaged), (2, .int x2)]) hx hb d_M_carryAll_52 rfl hl (by decide) rfl (fun ls hl => ?_)
  obtain ⟨ex_5, hw_5, hk_5⟩ := ob hr
  have hx_5 : ∀ (e_5 : (Int32) × (Nat → Int32) × (Nat → Int32)), e_5 = ex_5 → ∀ (H : Heap) (locs : List Loc) (ls : Array Slot), wd A s.heap D (w_M_carryAll_imaged cI a_r0 a_r0_figures a_r0_hampers a_r0_imaged a_r0_kinds a_r0_left0 a_r0_wants0 a_r0_weights v_r0_thrown v_r0_refusals v_r0_letters v_r0_letterMany v_r0_at v_r0_isBad v_r0_statements v_r0_placeIn v_r0_letterOf v_r0_told v_r0_kept v_r0_hasImage (.ref a_r0_imaged) v_r0_turns0 v_r0_turnOf v_r0_turned v_r0_order0 v_r0_likely0 v_r0_leftThen v_r0_row v_r0_rowMany v_r0_seed q_3.1 q_4.1 x2 e_5.1 q_2.1 r0_figures r0_hampers e_5.2.1 r0_kinds r0_left0 r0_wants0 e_5.2.2) H locs → lv_has ls 4 [(0, .ref a_r0)] → W p l e (rmd 1) s m ([.ref a_r0, .ref a_r0_imaged, .int x2] : List Value).toArray below meth c H locs 0 0 Q (F0 m 81 ls []) := by
    intro e_5 hE H locs ls hW hl
    subst hE; have hr := hk_5
    refine lv_iconst (v := 0) hx hb d_M_carryAll_81 (by decide) ?_
    refine lv_istore_n (lv' := [(3, .int 0), (0, .ref a_r0)]) hx hb d_M_carryAll_82 rfl hl (by decide) rfl (fun ls hl => ?_)
    obtain ⟨ex_10, hw_10, hk_10⟩ := ob hr
    have hx_10 : ∀ (e_10 : (Int32) × (Nat → Int32) × (Nat → Int32) × (Nat → Int32) × (Nat → Int32)), e_10 = ex_10 → ∀ (H : Heap) (locs : List Loc) (ls : Array Slot), wd A s.heap D (w_M_carryAll_imaged cI a_r0 a_r0_figures a_r0_hampers a_r0_imaged a_r0_kinds a_r0_left0 a_r0_wants0 a_r0_weights v_r0_thrown v_r0_refusals v_r0_letters v_r0_letterMany v_r0_at v_r0_isBad v_r0_statements v_r0_placeIn v_r0_letterOf v_r0_told v_r0_kept v_r0_hasImage (.ref a_r0_imaged) v_r0_turns0 v_r0_turnOf v_r0_turned v_r0_order0 v_r0_likely0 v_r0_leftThen v_r0_row v_r0_rowMany v_r0_seed q_3.1 q_4.1 x2 e_10.1 q_2.1 e_10.2.1 e_10.2.2.1 e_10.2.2.2.1 e_10.2.2.2.2 r0_left0 r0_wants0 e_5.2.2) H locs → lv_has ls 4 [(0, .ref a_r0)] → W p l e (rmd 1) s m ([.ref a_r0, .ref a_r0_imaged, .int x2] : List Value).toArray below meth c H locs 0 0 Q (F0 m 143 ls []) := by
      intro e_10 hE H locs ls hW hl
      subst hE; have hr := hk_10
      refine lv_iconst (v := 0) hx hb d_M_carryAll_143 (by decide) ?_
      refine lv_istore_n (lv' := [(3, .int 0), (0, .ref a_r0)]) hx hb d_M_carryAll_144 rfl hl (by decide) rfl (fun ls hl => ?_)
      obtain ⟨ex_21, hw_21, hk_21⟩ := ob hr
      have hx_21 : ∀ (e_21 : (Int32) × (Nat → Int32) × (Nat → Int32) × (Nat → Int32)), e_21 = ex_21 → ∀ (H : Heap) (locs : List Loc) (ls : Array Slot), wd A s.heap D (w_M_carryAll_imaged cI a_r0 a_r0_figures a_r0_hampers a_r0_imaged a_r0_kinds a_r0_left0 a_r0_wants0 a_r0_weights v_r0_thrown v_r0_refusals v_r0_letters v_r0_letterMany v_r0_at v_r0_isBad v_r0_statements v_r0_placeIn v_r0_letterOf v_r0_told v_r0_kept v_r0_hasImage (.ref a_r0_imaged) v_r0_turns0 v_r0_turnOf v_r0_turned v_r0_order0 v_r0_likely0 v_r0_leftThen v_r0_row v_r0_rowMany v_r0_seed q_3.1 q_4.1 x2 e_21.1 q_2.1 e_10.2.1 e_10.2.2.1 e_21.2.1 e_10.2.2.2.2 e_21.2.2.1 e_21.2.2.2 e_5.2.2) H locs → lv_has ls 4 [] → W p l e (rmd 1) s m ([.ref a_r0, .ref a_r0_imaged, .int x2] : List Value).toArray below meth c H locs 0 0 Q (F0 m 188 ls []) := by
        intro e_21 hE H locs ls hW hl
        subst hE; have hr := hk_21
        obtain rfl := Option.some.inj hr
        rw [hQ]; exact k_vret C hret hW d_M_carryAll_188
      have hl_21 : ∀ (k : Nat) (y3_21 : Int32) (r0_place0_21 : Int32) (r0_imaged_21 : Nat → Int32) (r0_left0_21 : Nat → Int32) (r0_wants0_21 : Nat → Int32), wh (fun (s : (Int32) × (Int32) × (Nat → Int32) × (Nat → Int32) × (Nat → Int32)) => F_M_carryAll_imaged_L145 x2 s.1 s.2.1 s.2.2.1 s.2.2.2.1 s.2.2.2.2) k (y3_21, r0_place0_21, r0_imaged_21, r0_left0_21, r0_wants0_21) = some ex_21 → ∀ (H : Heap) (locs : List Loc) (ls : Array Slot), wd A s.heap D (w_M_carryAll_imaged cI a_r0 a_r0_figures a_r0_hampers a_r0_imaged a_r0_kinds a_r0_left0 a_r0_wants0 a_r0_weights v_r0_thrown v_r0_refusals v_r0_letters v_r0_letterMany v_r0_at v_r0_isBad v_r0_statements v_r0_placeIn v_r0_letterOf v_r0_told v_r0_kept v_r0_hasImage (.ref a_r0_imaged) v_r0_turns0 v_r0_turnOf v_r0_turned v_r0_order0 v_r0_likely0 v_r0_leftThen v_r0_row v_r0_rowMany v_r0_seed q_3.1 q_4.1 x2 r0_place0_21 q_2.1 e_10.2.1 e_10.2.2.1 r0_imaged_21 e_10.2.2.2.2 r0_left0_21 r0_wants0_21 e_5.2.2) H locs → lv_has ls 4 [(0, .ref a_r0), (3, .int y3_21)] → W p l e (rmd 1) s m ([.ref a_r0, .ref a_r0_imaged, .int x2] : List Value).toArray below meth c H locs 0 0 Q (F0 m 145 ls []) := by
        intro k
        induction k with
        | zero => intro y3_21 r0_place0_21 r0_imaged_21 r0_left0_21 r0_wants0_21 hw; exact absurd hw wh_0
        | succ k ih_21 =>
          intro y3_21 r0_place0_21 r0_imaged_21 r0_left0_21 r0_wants0_21 hw H locs ls hW hl
          obtain ⟨z_21, hr, hz1_21, hz2_21⟩ := wh_s hw
          have hr : F_M_carryAll_imaged_L145 x2 y3_21 r0_place0_21 r0_imaged_21 r0_left0_21 r0_wants0_21 = some z_21 := hr
          unfold F_M_carryAll_imaged_L145 at hr
          refine lv_iload_n hx hb d_M_carryAll_145 rfl (lv_at hl 1 rfl) ?_
          refine lv_iconst (v := 4) hx hb d_M_carryAll_146 (by decide) ?_
          refine lv_icmp_ge (tgt := 188) hx hb d_M_carryAll_147 (by decide) (fun c_22 => ?_) (fun c_22 => ?_)
          · replace hr := ip c_22 hr
            exact hx_21 _ (hz2_21 _ (Option.some.inj hr).symm) _ _ _ hW (lv_sub hl [] rfl)
          · replace hr := iN c_22 hr
            refine lv_aload_n hx hb d_M_carryAll_150 rfl (lv_at hl 0 rfl) ?_
            refine k_get i_M C hW 0 rfl rfl 6 (by decide) qf_M_22 rfl rfl d_M_carryAll_151 ?_
            refine lv_iload_n hx hb d_M_carryAll_154 rfl (lv_at hl 1 rfl) ?_
            refine lv_aload_n hx hb d_M_carryAll_155 rfl (lv_at hl 0 rfl) ?_
            refine lv_aload_n hx hb d_M_carryAll_156 rfl (lv_at hl 0 rfl) ?_
            refine k_get i_M C hW 0 rfl rfl 6 (by decide) qf_M_22 rfl rfl d_M_carryAll_157 ?_
            refine lv_iload_n hx hb d_M_carryAll_160 rfl (lv_at hl 1 rfl) ?_
            obtain ⟨h_23, hr⟩ := ck_some hr
            refine k_iald C hW 6 rfl h_23 d_M_carryAll_161 ?_
            obtain ⟨q_24, hc_24, hr⟩ := ob hr
            have ct_24 := C_M_carry_imaged l D cI cS a_r0 a_r0_imaged (Value.ref a_r0_weights) (Value.int q_2.1) (Value.ref a_r0_kinds) (Value.ref a_r0_figures) (Value.int q_3.1) (Value.ref a_r0_hampers) (Value.ref a_r0_wants0) (Value.ref a_r0_left0) (Value.int q_4.1) v_r0_thrown v_r0_refusals v_r0_letters v_r0_letterMany v_r0_at v_r0_isBad v_r0_statements v_r0_placeIn v_r0_letterOf v_r0_told v_r0_kept v_r0_hasImage v_r0_turns0 v_r0_turnOf v_r0_turned v_r0_order0 v_r0_likely0 v_r0_leftThen v_r0_row v_r0_rowMany v_r0_seed x2 r0_place0_21 r0_imaged_21 (r0_wants0_21 (Int32.toNatClampNeg y3_21)) q_24 hc_24
            refine k_goI hA hW [0, 3] rfl ct_24.1 (ws' := (w_M_carryAll_imaged cI a_r0 a_r0_figures a_r0_hampers a_r0_imaged a_r0_kinds a_r0_left0 a_r0_wants0 a_r0_weights v_r0_thrown v_r0_refusals v_r0_letters v_r0_letterMany v_r0_at v_r0_isBad v_r0_statements v_r0_placeIn v_r0_letterOf v_r0_told v_r0_kept v_r0_hasImage (.ref a_r0_imaged) v_r0_turns0 v_r0_turnOf v_r0_turned v_r0_order0 v_r0_likely0 v_r0_leftThen v_r0_row v_r0_rowMany v_r0_seed q_3.1 q_4.1 x2 q_24.2.1 q_2.1 e_10.2.1 e_10.2.2.1 q_24.2.2 e_10.2.2.2.2 r0_left0_21 r0_wants0_21 e_5.2.2)) rfl (k_runV C hA hW mw_M_carry mv_M_carry (ct_24.2 _) [0, 3] rfl rfl 0 rfl rfl qm_M_186 ⟨Nat.le_of_ble_eq_true rfl, Nat.le_of_ble_eq_true rfl, Nat.zero_le _, Nat.zero_le _⟩ rfl rfl (Nat.le_of_ble_eq_true rfl) hl.1 d_M_carryAll_162) (fun H locs hW => ?_)
            obtain ⟨h_25, hr⟩ := ck_some hr
            refine k_iast C hW 6 rfl h_25 (ws' := (w_M_carryAll_imaged cI a_r0 a_r0_figures a_r0_hampers a_r0_imaged a_r0_kinds a_r0_left0 a_r0_wants0 a_r0_weights v_r0_thrown v_r0_refusals v_r0_letters v_r0_letterMany v_r0_at v_r0_isBad v_r0_statements v_r0_placeIn v_r0_letterOf v_r0_told v_r0_kept v_r0_hasImage (.ref a_r0_imaged) v_r0_turns0 v_r0_turnOf v_r0_turned v_r0_order0 v_r0_likely0 v_r0_leftThen v_r0_row v_r0_rowMany v_r0_seed q_3.1 q_4.1 x2 q_24.2.1 q_2.1 e_10.2.1 e_10.2.2.1 q_24.2.2 e_10.2.2.2.2 r0_left0_21 (upd r0_wants0_21 (Int32.toNatClampNeg y3_21) q_24.1) e_5.2.2)) rfl d_M_carryAll_165 (fun H locs hW => ?_)
            refine lv_aload_n hx hb d_M_carryAll_166 rfl (lv_at hl 0 rfl) ?_
            refine k_get i_M C hW 0 rfl rfl 7 (by decide) qf_M_25 rfl rfl d_M_carryAll_167 ?_
            refine lv_iload_n hx hb d_M_carryAll_170 rfl (lv_at hl 1 rfl) ?_
            refine lv_aload_n hx hb d_M_carryAll_171 rfl (lv_at hl 0 rfl) ?_
            refine lv_aload_n hx hb d_M_carryAll_172 rfl (lv_at hl 0 rfl) ?_
            refine k_get i_M C hW 0 rfl rfl 7 (by decide) qf_M_25 rfl rfl d_M_carryAll_173 ?_
            refine lv_iload_n hx hb d_M_carryAll_176 rfl (lv_at hl 1 rfl) ?_
            obtain ⟨h_26, hr⟩ := ck_some hr
            refine k_iald C hW 5 rfl h_26 d_M_carryAll_177 ?_
            obtain ⟨q_27, hc_27, hr⟩ := ob hr
            have ct_27 := C_M_carry_imaged l D cI cS a_r0 a_r0_imaged (Value.ref a_r0_weights) (Value.int q_2.1) (Value.ref a_r0_kinds) (Value.ref a_r0_figures) (Value.int q_3.1) (Value.ref a_r0_hampers) (Value.ref a_r0_wants0) (Value.ref a_r0_left0) (Value.int q_4.1) v_r0_thrown v_r0_refusals v_r0_letters v_r0_letterMany v_r0_at v_r0_isBad v_r0_statements v_r0_placeIn v_r0_letterOf v_r0_told v_r0_kept v_r0_hasImage v_r0_turns0 v_r0_turnOf v_r0_turned v_r0_order0 v_r0_likely0 v_r0_leftThen v_r0_row v_r0_rowMany v_r0_seed x2 q_24.2.1 q_24.2.2 (r0_left0_21 (Int32.toNatClampNeg y3_21)) q_27 hc_27
            refine k_goI hA hW [0, 3] rfl ct_27.1 (ws' := (w_M_carryAll_imaged cI a_r0 a_r0_figures a_r0_hampers a_r0_imaged a_r0_kinds a_r0_left0 a_r0_wants0 a_r0_weights v_r0_thrown v_r0_refusals v_r0_letters v_r0_letterMany v_r0_at v_r0_isBad v_r0_statements v_r0_placeIn v_r0_letterOf v_r0_told v_r0_kept v_r0_hasImage (.ref a_r0_imaged) v_r0_turns0 v_r0_turnOf v_r0_turned v_r0_order0 v_r0_likely0 v_r0_leftThen v_r0_row v_r0_rowMany v_r0_seed q_3.1 q_4.1 x2 q_27.2.1 q_2.1 e_10.2.1 e_10.2.2.1 q_27.2.2 e_10.2.2.2.2 r0_left0_21 (upd r0_wants0_21 (Int32.toNatClampNeg y3_21) q_24.1) e_5.2.2)) rfl (k_runV C hA hW mw_M_carry mv_M_carry (ct_27.2 _) [0, 3] rfl rfl 0 rfl rfl qm_M_186 ⟨Nat.le_of_ble_eq_true rfl, Nat.le_of_ble_eq_true rfl, Nat.zero_le _, Nat.zero_le _⟩ rfl rfl (Nat.le_of_ble_eq_true rfl) hl.1 d_M_carryAll_178) (fun H locs hW => ?_)
            obtain ⟨h_28, hr⟩ := ck_some hr
            refine k_iast C hW 5 rfl h_28 (ws' := (w_M_carryAll_imaged cI a_r0 a_r0_figures a_r0_hampers a_r0_imaged a_r0_kinds a_r0_left0 a_r0_wants0 a_r0_weights v_r0_thrown v_r0_refusals v_r0_letters v_r0_letterMany v_r0_at v_r0_isBad v_r0_statements v_r0_placeIn v_r0_letterOf v_r0_told v_r0_kept v_r0_hasImage (.ref a_r0_imaged) v_r0_turns0 v_r0_turnOf v_r0_turned v_r0_order0 v_r0_likely0 v_r0_leftThen v_r0_row v_r0_rowMany v_r0_seed q_3.1 q_4.1 x2 q_27.2.1 q_2.1 e_10.2.1 e_10.2.2.1 q_27.2.2 e_10.2.2.2.2 (upd r0_left0_21 (Int32.toNatClampNeg y3_21) q_27.1) (upd r0_wants0_21 (Int32.toNatClampNeg y3_21) q_24.1) e_5.2.2)) rfl d_M_carryAll_181 (fun H locs hW => ?_)
            refine lv_iinc (v := (y3_21 + 1)) (lv' := [(3, .int (y3_21 + 1)), (0, .ref a_r0)]) hx hb d_M_carryAll_182 hl (k := 1) rfl rfl (by decide) rfl (fun ls hl => ?_)
            refine lv_goto (tgt := 145) hx hb d_M_carryAll_185 (by decide) ?_
            exact ih_21 (y3_21 + 1) q_27.2.1 q_27.2.2 (upd r0_left0_21 (Int32.toNatClampNeg y3_21) q_27.1) (upd r0_wants0_21 (Int32.toNatClampNeg y3_21) q_24.1) (hz1_21 _ (Option.some.inj hr).symm) _ _ _ hW (lv_sub hl [1, 0] rfl)
      exact hl_21 _ 0 e_10.1 e_10.2.2.2.1 r0_left0 r0_wants0 hw_21 _ _ _ hW (lv_sub hl [1, 0] rfl)
    have hl_10 : ∀ (k : Nat) (y3_10 : Int32) (r0_place0_10 : Int32) (r0_figures_10 : Nat → Int32) (r0_hampers_10 : Nat → Int32) (r0_imaged_10 : Nat → Int32) (r0_kinds_10 : Nat → Int32), wh (fun (s : (Int32) × (Int32) × (Nat → Int32) × (Nat → Int32) × (Nat → Int32) × (Nat → Int32)) => F_M_carryAll_imaged_L83 x2 s.1 s.2.1 s.2.2.1 s.2.2.2.1 s.2.2.2.2.1 s.2.2.2.2.2) k (y3_10, r0_place0_10, r0_figures_10, r0_hampers_10, r0_imaged_10, r0_kinds_10) = some ex_10 → ∀ (H : Heap) (locs : List Loc) (ls : Array Slot), wd A s.heap D (w_M_carryAll_imaged cI a_r0 a_r0_figures a_r0_hampers a_r0_imaged a_r0_kinds a_r0_left0 a_r0_wants0 a_r0_weights v_r0_thrown v_r0_refusals v_r0_letters v_r0_letterMany v_r0_at v_r0_isBad v_r0_statements v_r0_placeIn v_r0_letterOf v_r0_told v_r0_kept v_r0_hasImage (.ref a_r0_imaged) v_r0_turns0 v_r0_turnOf v_r0_turned v_r0_order0 v_r0_likely0 v_r0_leftThen v_r0_row v_r0_rowMany v_r0_seed q_3.1 q_4.1 x2 r0_place0_10 q_2.1 r0_figures_10 r0_hampers_10 r0_imaged_10 r0_kinds_10 r0_left0 r0_wants0 e_5.2.2) H locs → lv_has ls 4 [(0, .ref a_r0), (3, .int y3_10)] → W p l e (rmd 1) s m ([.ref a_r0, .ref a_r0_imaged, .int x2] : List Value).toArray below meth c H locs 0 0 Q (F0 m 83 ls []) := by
      intro k
      induction k with
      | zero => intro y3_10 r0_place0_10 r0_figures_10 r0_hampers_10 r0_imaged_10 r0_kinds_10 hw; exact absurd hw wh_0
      | succ k ih_10 =>
        intro y3_10 r0_place0_10 r0_figures_10 r0_hampers_10 r0_imaged_10 r0_kinds_10 hw H locs ls hW hl
        obtain ⟨z_10, hr, hz1_10, hz2_10⟩ := wh_s hw
        have hr : F_M_carryAll_imaged_L83 x2 y3_10 r0_place0_10 r0_figures_10 r0_hampers_10 r0_imaged_10 r0_kinds_10 = some z_10 := hr
        unfold F_M_carryAll_imaged_L83 at hr
        refine lv_iload_n hx hb d_M_carryAll_83 rfl (lv_at hl 1 rfl) ?_
        refine lv_bipush (v := 8) hx hb d_M_carryAll_84 (by decide) ?_
        refine lv_icmp_ge (tgt := 143) hx hb d_M_carryAll_86 (by decide) (fun c_11 => ?_) (fun c_11 => ?_)
        · replace hr := ip c_11 hr
          exact hx_10 _ (hz2_10 _ (Option.some.inj hr).symm) _ _ _ hW (lv_sub hl [0] rfl)
        · replace hr := iN c_11 hr
          refine lv_aload_n hx hb d_M_carryAll_89 rfl (lv_at hl 0 rfl) ?_
          refine k_get i_M C hW 0 rfl rfl 2 (by decide) qf_M_13 rfl rfl d_M_carryAll_90 ?_
          refine lv_iload_n hx hb d_M_carryAll_93 rfl (lv_at hl 1 rfl) ?_
          refine lv_aload_n hx hb d_M_carryAll_94 rfl (lv_at hl 0 rfl) ?_
          refine lv_aload_n hx hb d_M_carryAll_95 rfl (lv_at hl 0 rfl) ?_
          refine k_get i_M C hW 0 rfl rfl 2 (by decide) qf_M_13 rfl rfl d_M_carryAll_96 ?_
          refine lv_iload_n hx hb d_M_carryAll_99 rfl (lv_at hl 1 rfl) ?_
          obtain ⟨h_12, hr⟩ := ck_some hr
          refine k_iald C hW 4 rfl h_12 d_M_carryAll_100 ?_
          obtain ⟨q_13, hc_13, hr⟩ := ob hr
          have ct_13 := C_M_carry_imaged l D cI cS a_r0 a_r0_imaged (Value.ref a_r0_weights) (Value.int q_2.1) (Value.ref a_r0_kinds) (Value.ref a_r0_figures) (Value.int q_3.1) (Value.ref a_r0_hampers) (Value.ref a_r0_wants0) (Value.ref a_r0_left0) (Value.int q_4.1) v_r0_thrown v_r0_refusals v_r0_letters v_r0_letterMany v_r0_at v_r0_isBad v_r0_statements v_r0_placeIn v_r0_letterOf v_r0_told v_r0_kept v_r0_hasImage v_r0_turns0 v_r0_turnOf v_r0_turned v_r0_order0 v_r0_likely0 v_r0_leftThen v_r0_row v_r0_rowMany v_r0_seed x2 r0_place0_10 r0_imaged_10 (r0_kinds_10 (Int32.toNatClampNeg y3_10)) q_13 hc_13
          refine k_goI hA hW [0, 3] rfl ct_13.1 (ws' := (w_M_carryAll_imaged cI a_r0 a_r0_figures a_r0_hampers a_r0_imaged a_r0_kinds a_r0_left0 a_r0_wants0 a_r0_weights v_r0_thrown v_r0_refusals v_r0_letters v_r0_letterMany v_r0_at v_r0_isBad v_r0_statements v_r0_placeIn v_r0_letterOf v_r0_told v_r0_kept v_r0_hasImage (.ref a_r0_imaged) v_r0_turns0 v_r0_turnOf v_r0_turned v_r0_order0 v_r0_likely0 v_r0_leftThen v_r0_row v_r0_rowMany v_r0_seed q_3.1 q_4.1 x2 q_13.2.1 q_2.1 r0_figures_10 r0_hampers_10 q_13.2.2 r0_kinds_10 r0_left0 r0_wants0 e_5.2.2)) rfl (k_runV C hA hW mw_M_carry mv_M_carry (ct_13.2 _) [0, 3] rfl rfl 0 rfl rfl qm_M_186 ⟨Nat.le_of_ble_eq_true rfl, Nat.le_of_ble_eq_true rfl, Nat.zero_le _, Nat.zero_le _⟩ rfl rfl (Nat.le_of_ble_eq_true rfl) hl.1 d_M_carryAll_101) (fun H locs hW => ?_)
          obtain ⟨h_14, hr⟩ := ck_some hr
          refine k_iast C hW 4 rfl h_14 (ws' := (w_M_carryAll_imaged cI a_r0 a_r0_figures a_r0_hampers a_r0_imaged a_r0_kinds a_r0_left0 a_r0_wants0 a_r0_weights v_r0_thrown v_r0_refusals v_r0_letters v_r0_letterMany v_r0_at v_r0_isBad v_r0_statements v_r0_placeIn v_r0_letterOf v_r0_told v_r0_kept v_r0_hasImage (.ref a_r0_imaged) v_r0_turns0 v_r0_turnOf v_r0_turned v_r0_order0 v_r0_likely0 v_r0_leftThen v_r0_row v_r0_rowMany v_r0_seed q_3.1 q_4.1 x2 q_13.2.1 q_2.1 r0_figures_10 r0_hampers_10 q_13.2.2 (upd r0_kinds_10 (Int32.toNatClampNeg y3_10) q_13.1) r0_left0 r0_wants0 e_5.2.2)) rfl d_M_carryAll_104 (fun H locs hW => ?_)
          refine lv_aload_n hx hb d_M_carryAll_105 rfl (lv_at hl 0 rfl) ?_
          refine k_get i_M C hW 0 rfl rfl 3 (by decide) qf_M_16 rfl rfl d_M_carryAll_106 ?_
          refine lv_iload_n hx hb d_M_carryAll_109 rfl (lv_at hl 1 rfl) ?_
          refine lv_aload_n hx hb d_M_carryAll_110 rfl (lv_at hl 0 rfl) ?_
          refine lv_aload_n hx hb d_M_carryAll_111 rfl (lv_at hl 0 rfl) ?_
          refine k_get i_M C hW 0 rfl rfl 3 (by decide) qf_M_16 rfl rfl d_M_carryAll_112 ?_
          refine lv_iload_n hx hb d_M_carryAll_115 rfl (lv_at hl 1 rfl) ?_
          obtain ⟨h_15, hr⟩ := ck_some hr
          refine k_iald C hW 1 rfl h_15 d_M_carryAll_116 ?_
          obtain ⟨q_16, hc_16, hr⟩ := ob hr
          have ct_16 := C_M_carry_imaged l D cI cS a_r0 a_r0_imaged (Value.ref a_r0_weights) (Value.int q_2.1) (Value.ref a_r0_kinds) (Value.ref a_r0_figures) (Value.int q_3.1) (Value.ref a_r0_hampers) (Value.ref a_r0_wants0) (Value.ref a_r0_left0) (Value.int q_4.1) v_r0_thrown v_r0_refusals v_r0_letters v_r0_letterMany v_r0_at v_r0_isBad v_r0_statements v_r0_placeIn v_r0_letterOf v_r0_told v_r0_kept v_r0_hasImage v_r0_turns0 v_r0_turnOf v_r0_turned v_r0_order0 v_r0_likely0 v_r0_leftThen v_r0_row v_r0_rowMany v_r0_seed x2 q_13.2.1 q_13.2.2 (r0_figures_10 (Int32.toNatClampNeg y3_10)) q_16 hc_16
          refine k_goI hA hW [0, 3] rfl ct_16.1 (ws' := (w_M_carryAll_imaged cI a_r0 a_r0_figures a_r0_hampers a_r0_imaged a_r0_kinds a_r0_left0 a_r0_wants0 a_r0_weights v_r0_thrown v_r0_refusals v_r0_letters v_r0_letterMany v_r0_at v_r0_isBad v_r0_statements v_r0_placeIn v_r0_letterOf v_r0_told v_r0_kept v_r0_hasImage (.ref a_r0_imaged) v_r0_turns0 v_r0_turnOf v_r0_turned v_r0_order0 v_r0_likely0 v_r0_leftThen v_r0_row v_r0_rowMany v_r0_seed q_3.1 q_4.1 x2 q_16.2.1 q_2.1 r0_figures_10 r0_hampers_10 q_16.2.2 (upd r0_kinds_10 (Int32.toNatClampNeg y3_10) q_13.1) r0_left0 r0_wants0 e_5.2.2)) rfl (k_runV C hA hW mw_M_carry mv_M_carry (ct_16.2 _) [0, 3] rfl rfl 0 rfl rfl qm_M_186 ⟨Nat.le_of_ble_eq_true rfl, Nat.le_of_ble_eq_true rfl, Nat.zero_le _, Nat.zero_le _⟩ rfl rfl (Nat.le_of_ble_eq_true rfl) hl.1 d_M_carryAll_117) (fun H locs hW => ?_)
          obtain ⟨h_17, hr⟩ := ck_some hr
          refine k_iast C hW 1 rfl h_17 (ws' := (w_M_carryAll_imaged cI a_r0 a_r0_figures a_r0_hampers a_r0_imaged a_r0_kinds a_r0_left0 a_r0_wants0 a_r0_weights v_r0_thrown v_r0_refusals v_r0_letters v_r0_letterMany v_r0_at v_r0_isBad v_r0_statements v_r0_placeIn v_r0_letterOf v_r0_told v_r0_kept v_r0_hasImage (.ref a_r0_imaged) v_r0_turns0 v_r0_turnOf v_r0_turned v_r0_order0 v_r0_likely0 v_r0_leftThen v_r0_row v_r0_rowMany v_r0_seed q_3.1 q_4.1 x2 q_16.2.1 q_2.1 (upd r0_figures_10 (Int32.toNatClampNeg y3_10) q_16.1) r0_hampers_10 q_16.2.2 (upd r0_kinds_10 (Int32.toNatClampNeg y3_10) q_13.1) r0_left0 r0_wants0 e_5.2.2)) rfl d_M_carryAll_120 (fun H locs hW => ?_)
          refine lv_aload_n hx hb d_M_carryAll_121 rfl (lv_at hl 0 rfl) ?_
          refine k_get i_M C hW 0 rfl rfl 5 (by decide) qf_M_19 rfl rfl d_M_carryAll_122 ?_
          refine lv_iload_n hx hb d_M_carryAll_125 rfl (lv_at hl 1 rfl) ?_
          refine lv_aload_n hx hb d_M_carryAll_126 rfl (lv_at hl 0 rfl) ?_
          refine lv_aload_n hx hb d_M_carryAll_127 rfl (lv_at hl 0 rfl) ?_
          refine k_get i_M C hW 0 rfl rfl 5 (by decide) qf_M_19 rfl rfl d_M_carryAll_128 ?_
          refine lv_iload_n hx hb d_M_carryAll_131 rfl (lv_at hl 1 rfl) ?_
          obtain ⟨h_18, hr⟩ := ck_some hr
          refine k_iald C hW 2 rfl h_18 d_M_carryAll_132 ?_
          obtain ⟨q_19, hc_19, hr⟩ := ob hr
          have ct_19 := C_M_carry_imaged l D cI cS a_r0 a_r0_imaged (Value.ref a_r0_weights) (Value.int q_2.1) (Value.ref a_r0_kinds) (Value.ref a_r0_figures) (Value.int q_3.1) (Value.ref a_r0_hampers) (Value.ref a_r0_wants0) (Value.ref a_r0_left0) (Value.int q_4.1) v_r0_thrown v_r0_refusals v_r0_letters v_r0_letterMany v_r0_at v_r0_isBad v_r0_statements v_r0_placeIn v_r0_letterOf v_r0_told v_r0_kept v_r0_hasImage v_r0_turns0 v_r0_turnOf v_r0_turned v_r0_order0 v_r0_likely0 v_r0_leftThen v_r0_row v_r0_rowMany v_r0_seed x2 q_16.2.1 q_16.2.2 (r0_hampers_10 (Int32.toNatClampNeg y3_10)) q_19 hc_19
          refine k_goI hA hW [0, 3] rfl ct_19.1 (ws' := (w_M_carryAll_imaged cI a_r0 a_r0_figures a_r0_hampers a_r0_imaged a_r0_kinds a_r0_left0 a_r0_wants0 a_r0_weights v_r0_thrown v_r0_refusals v_r0_letters v_r0_letterMany v_r0_at v_r0_isBad v_r0_statements v_r0_placeIn v_r0_letterOf v_r0_told v_r0_kept v_r0_hasImage (.ref a_r0_imaged) v_r0_turns0 v_r0_turnOf v_r0_turned v_r0_order0 v_r0_likely0 v_r0_leftThen v_r0_row v_r0_rowMany v_r0_seed q_3.1 q_4.1 x2 q_19.2.1 q_2.1 (upd r0_figures_10 (Int32.toNatClampNeg y3_10) q_16.1) r0_hampers_10 q_19.2.2 (upd r0_kinds_10 (Int32.toNatClampNeg y3_10) q_13.1) r0_left0 r0_wants0 e_5.2.2)) rfl (k_runV C hA hW mw_M_carry mv_M_carry (ct_19.2 _) [0, 3] rfl rfl 0 rfl rfl qm_M_186 ⟨Nat.le_of_ble_eq_true rfl, Nat.le_of_ble_eq_true rfl, Nat.zero_le _, Nat.zero_le _⟩ rfl rfl (Nat.le_of_ble_eq_true rfl) hl.1 d_M_carryAll_133) (fun H locs hW => ?_)
          obtain ⟨h_20, hr⟩ := ck_some hr
          refine k_iast C hW 2 rfl h_20 (ws' := (w_M_carryAll_imaged cI a_r0 a_r0_figures a_r0_hampers a_r0_imaged a_r0_kinds a_r0_left0 a_r0_wants0 a_r0_weights v_r0_thrown v_r0_refusals v_r0_letters v_r0_letterMany v_r0_at v_r0_isBad v_r0_statements v_r0_placeIn v_r0_letterOf v_r0_told v_r0_kept v_r0_hasImage (.ref a_r0_imaged) v_r0_turns0 v_r0_turnOf v_r0_turned v_r0_order0 v_r0_likely0 v_r0_leftThen v_r0_row v_r0_rowMany v_r0_seed q_3.1 q_4.1 x2 q_19.2.1 q_2.1 (upd r0_figures_10 (Int32.toNatClampNeg y3_10) q_16.1) (upd r0_hampers_10 (Int32.toNatClampNeg y3_10) q_19.1) q_19.2.2 (upd r0_kinds_10 (Int32.toNatClampNeg y3_10) q_13.1) r0_left0 r0_wants0 e_5.2.2)) rfl d_M_carryAll_136 (fun H locs hW => ?_)
          refine lv_iinc (v := (y3_10 + 1)) (lv' := [(3, .int (y3_10 + 1)), (0, .ref a_r0)]) hx hb d_M_carryAll_137 hl (k := 1) rfl rfl (by decide) rfl (fun ls hl => ?_)
          refine lv_goto (tgt := 83) hx hb d_M_carryAll_140 (by decide) ?_
          exact ih_10 (y3_10 + 1) q_19.2.1 (upd r0_figures_10 (Int32.toNatClampNeg y3_10) q_16.1) (upd r0_hampers_10 (Int32.toNatClampNeg y3_10) q_19.1) q_19.2.2 (upd r0_kinds_10 (Int32.toNatClampNeg y3_10) q_13.1) (hz1_10 _ (Option.some.inj hr).symm) _ _ _ hW (lv_sub hl [1, 0] rfl)
    exact hl_10 _ 0 e_5.1 r0_figures r0_hampers e_5.2.1 r0_kinds hw_10 _ _ _ hW (lv_sub hl [1, 0] rfl)
  have hl_5 : ∀ (k : Nat) (y3_5 : Int32) (r0_place0_5 : Int32) (r0_imaged_5 : Nat → Int32) (r0_weights_5 : Nat → Int32), wh (fun (s : (Int32) × (Int32) × (Nat → Int32) × (Nat → Int32)) => F_M_carryAll_imaged_L53 x2 s.1 s.2.1 s.2.2.1 s.2.2.2) k (y3_5, r0_place0_5, r0_imaged_5, r0_weights_5) = some ex_5 → ∀ (H : Heap) (locs : List Loc) (ls : Array Slot), wd A s.heap D (w_M_carryAll_imaged cI a_r0 a_r0_figures a_r0_hampers a_r0_imaged a_r0_kinds a_r0_left0 a_r0_wants0 a_r0_weights v_r0_thrown v_r0_refusals v_r0_letters v_r0_letterMany v_r0_at v_r0_isBad v_r0_statements v_r0_placeIn v_r0_letterOf v_r0_told v_r0_kept v_r0_hasImage (.ref a_r0_imaged) v_r0_turns0 v_r0_turnOf v_r0_turned v_r0_order0 v_r0_likely0 v_r0_leftThen v_r0_row v_r0_rowMany v_r0_seed q_3.1 q_4.1 x2 r0_place0_5 q_2.1 r0_figures r0_hampers r0_imaged_5 r0_kinds r0_left0 r0_wants0 r0_weights_5) H locs → lv_has ls 4 [(0, .ref a_r0), (3, .int y3_5)] → W p l e (rmd 1) s m ([.ref a_r0, .ref a_r0_imaged, .int x2] : List Value).toArray below meth c H locs 0 0 Q (F0 m 53 ls []) := by
    intro k
    induction k with
    | zero => intro y3_5 r0_place0_5 r0_imaged_5 r0_weights_5 hw; exact absurd hw wh_0
    | succ k ih_5 =>
      intro y3_5 r0_place0_5 r0_imaged_5 r0_weights_5 hw H locs ls hW hl
      obtain ⟨z_5, hr, hz1_5, hz2_5⟩ := wh_s hw
      have hr : F_M_carryAll_imaged_L53 x2 y3_5 r0_place0_5 r0_imaged_5 r0_weights_5 = some z_5 := hr
      unfold F_M_carryAll_imaged_L53 at hr
      refine lv_iload_n hx hb d_M_carryAll_53 rfl (lv_at hl 1 rfl) ?_
      refine lv_bipush (v := 6) hx hb d_M_carryAll_54 (by decide) ?_
      refine lv_icmp_ge (tgt := 81) hx hb d_M_carryAll_56 (by decide) (fun c_6 => ?_) (fun c_6 => ?_)
      · replace hr := ip c_6 hr
        exact hx_5 _ (hz2_5 _ (Option.some.inj hr).symm) _ _ _ hW (lv_sub hl [0] rfl)
      · replace hr := iN c_6 hr
        refine lv_aload_n hx hb d_M_carryAll_59 rfl (lv_at hl 0 rfl) ?_
        refine k_get i_M C hW 0 rfl rfl 0 (by decide) qf_M_7 rfl rfl d_M_carryAll_60 ?_
        refine lv_iload_n hx hb d_M_carryAll_63 rfl (lv_at hl 1 rfl) ?_
        refine lv_aload_n hx hb d_M_carryAll_64 rfl (lv_at hl 0 rfl) ?_
        refine lv_aload_n hx hb d_M_carryAll_65 rfl (lv_at hl 0 rfl) ?_
        refine k_get i_M C hW 0 rfl rfl 0 (by decide) qf_M_7 rfl rfl d_M_carryAll_66 ?_
        refine lv_iload_n hx hb d_M_carryAll_69 rfl (lv_at hl 1 rfl) ?_
        obtain ⟨h_7, hr⟩ := ck_some hr
        refine k_iald C hW 7 rfl h_7 d_M_carryAll_70 ?_
        obtain ⟨q_8, hc_8, hr⟩ := ob hr
        have ct_8 := C_M_carry_imaged l D cI cS a_r0 a_r0_imaged (Value.ref a_r0_weights) (Value.int q_2.1) (Value.ref a_r0_kinds) (Value.ref a_r0_figures) (Value.int q_3.1) (Value.ref a_r0_hampers) (Value.ref a_r0_wants0) (Value.ref a_r0_left0) (Value.int q_4.1) v_r0_thrown v_r0_refusals v_r0_letters v_r0_letterMany v_r0_at v_r0_isBad v_r0_statements v_r0_placeIn v_r0_letterOf v_r0_told v_r0_kept v_r0_hasImage v_r0_turns0 v_r0_turnOf v_r0_turned v_r0_order0 v_r0_likely0 v_r0_leftThen v_r0_row v_r0_rowMany v_r0_seed x2 r0_place0_5 r0_imaged_5 (r0_weights_5 (Int32.toNatClampNeg y3_5)) q_8 hc_8
        refine k_goI hA hW [0, 3] rfl ct_8.1 (ws' := (w_M_carryAll_imaged cI a_r0 a_r0_figures a_r0_hampers a_r0_imaged a_r0_kinds a_r0_left0 a_r0_wants0 a_r0_weights v_r0_thrown v_r0_refusals v_r0_letters v_r0_letterMany v_r0_at v_r0_isBad v_r0_statements v_r0_placeIn v_r0_letterOf v_r0_told v_r0_kept v_r0_hasImage (.ref a_r0_imaged) v_r0_turns0 v_r0_turnOf v_r0_turned v_r0_order0 v_r0_likely0 v_r0_leftThen v_r0_row v_r0_rowMany v_r0_seed q_3.1 q_4.1 x2 q_8.2.1 q_2.1 r0_figures r0_hampers q_8.2.2 r0_kinds r0_left0 r0_wants0 r0_weights_5)) rfl (k_runV C hA hW mw_M_carry mv_M_carry (ct_8.2 _) [0, 3] rfl rfl 0 rfl rfl qm_M_186 ⟨Nat.le_of_ble_eq_true rfl, Nat.le_of_ble_eq_true rfl, Nat.zero_le _, Nat.zero_le _⟩ rfl rfl (Nat.le_of_ble_eq_true rfl) hl.1 d_M_carryAll_71) (fun H locs hW => ?_)
        obtain ⟨h_9, hr⟩ := ck_some hr
        refine k_iast C hW 7 rfl h_9 (ws' := (w_M_carryAll_imaged cI a_r0 a_r0_figures a_r0_hampers a_r0_imaged a_r0_kinds a_r0_left0 a_r0_wants0 a_r0_weights v_r0_thrown v_r0_refusals v_r0_letters v_r0_letterMany v_r0_at v_r0_isBad v_r0_statements v_r0_placeIn v_r0_letterOf v_r0_told v_r0_kept v_r0_hasImage (.ref a_r0_imaged) v_r0_turns0 v_r0_turnOf v_r0_turned v_r0_order0 v_r0_likely0 v_r0_leftThen v_r0_row v_r0_rowMany v_r0_seed q_3.1 q_4.1 x2 q_8.2.1 q_2.1 r0_figures r0_hampers q_8.2.2 r0_kinds r0_left0 r0_wants0 (upd r0_weights_5 (Int32.toNatClampNeg y3_5) q_8.1))) rfl d_M_carryAll_74 (fun H locs hW => ?_)
        refine lv_iinc (v := (y3_5 + 1)) (lv' := [(3, .int (y3_5 + 1)), (0, .ref a_r0)]) hx hb d_M_carryAll_75 hl (k := 1) rfl rfl (by decide) rfl (fun ls hl => ?_)
        refine lv_goto (tgt := 53) hx hb d_M_carryAll_78 (by decide) ?_
        exact ih_5 (y3_5 + 1) q_8.2.1 q_8.2.2 (upd r0_weights_5 (Int32.toNatClampNeg y3_5) q_8.1) (hz1_5 _ (Option.some.inj hr).symm) _ _ _ hW (lv_sub hl [1, 0] rfl)
  exact hl_5 _ 0 q_4.2.1 q_4.2.2 r0_weights hw_5 _ _ _ hW (lv_sub hl [1, 0] rfl)
def w_M_clear (cI : ClassId) (a_r0 : Nat) (v_r0_weights v_r0_things v_r0_kinds v_r0_figures v_r0_days v_r0_hampers v_r0_wants0 v_r0_left0 v_r0_done0 v_r0_refusals v_r0_letters v_r0_letterMany v_r0_at v_r0_isBad v_r0_statements v_r0_placeIn v_r0_letterOf v_r0_told v_r0_kept v_r0_imaged v_r0_hasImage v_r0_place0 v_r0_isTaking v_r0_keptIn v_r0_turns0 v_r0_turnOf v_r0_turned v_r0_order0 v_r0_likely0 v_r0_leftThen v_r0_row v_r0_seed : Value) (r0_rowMany : Int32) (r0_thrown : Int32) : va_W := [(a_r0, .inr (9, [v_r0_weights, v_r0_things, v_r0_kinds, v_r0_figures, v_r0_days, v_r0_hampers, v_r0_wants0, v_r0_left0, v_r0_done0, .int r0_thrown, v_r0_refusals, v_r0_letters, v_r0_letterMany, v_r0_at, v_r0_isBad, v_r0_statements, v_r0_placeIn, v_r0_letterOf, v_r0_told, v_r0_kept, v_r0_imaged, v_r0_hasImage, v_r0_place0, v_r0_isTaking, v_r0_keptIn, v_r0_turns0, v_r0_turnOf, v_r0_turned, v_r0_order0, v_r0_likely0, v_r0_leftThen, v_r0_row, .int r0_rowMany, v_r0_seed]))]
def F_M_clear (r0_rowMany : Int32) : Option (Int32 × (Int32) × (Int32)) :=
  (some (r0_rowMany, 0, 0))
set_option maxHeartbeats 4000000 in
set_option maxRecDepth 100000 in
theorem C_M_clear (l : Launch) (D : va_G) (cI cS : ClassId) (a_r0 : Nat) (v_r0_weights v_r0_things v_r0_kinds v_r0_figures v_r0_days v_r0_hampers v_r0_wants0 v_r0_left0 v_r0_done0 v_r0_refusals v_r0_letters v_r0_letterMany v_r0_at v_r0_isBad v_r0_statements v_r0_placeIn v_r0_letterOf v_r0_told v_r0_kept v_r0_imaged v_r0_hasImage v_r0_place0 v_r0_isTaking v_r0_keptIn v_r0_turns0 v_r0_turnOf v_r0_turned v_r0_order0 v_r0_likely0 v_r0_leftThen v_r0_row v_r0_seed : Value) (r0_rowMany : Int32) (r0_thrown : Int32) (o : Int32 × (Int32) × (Int32)) (hr : F_M_clear r0_rowMany = some o) : ctI l y_M_clear (Cond.code y_M_clear b_M_clear 2 (some FieldType.int)) (rmd 0) D (kTy cI cS) [.ref a_r0] (w_M_clear cI a_r0 v_r0_weights v_r0_things v_r0_kinds v_r0_figures v_r0_days v_r0_hampers v_r0_wants0 v_r0_left0 v_r0_done0 v_r0_refusals v_r0_letters v_r0_letterMany v_r0_at v_r0_isBad v_r0_statements v_r0_placeIn v_r0_letterOf v_r0_told v_r0_kept v_r0_imaged v_r0_hasImage v_r0_place0 v_r0_isTaking v_r0_keptIn v_r0_turns0 v_r0_turnOf v_r0_turned v_r0_order0 v_r0_likely0 v_r0_leftThen v_r0_row v_r0_seed r0_rowMany r0_thrown) (w_M_clear cI a_r0 v_r0_weights v_r0_things v_r0_kinds v_r0_figures v_r0_days v_r0_hampers v_r0_wants0 v_r0_left0 v_r0_done0 v_r0_refusals v_r0_letters v_r0_letterMany v_r0_at v_r0_isBad v_r0_statements v_r0_placeIn v_r0_letterOf v_r0_told v_r0_kept v_r0_imaged v_r0_hasImage v_r0_place0 v_r0_isTaking v_r0_keptIn v_r0_turns0 v_r0_turnOf v_r0_turned v_r0_order0 v_r0_likely0 v_r0_leftThen v_r0_row v_r0_seed o.2.1 o.2.2) o.1 := by
  unfold F_M_clear at hr
  refine ⟨rfl, fun sz => ct_of (w0 := (w_M_clear cI a_r0 v_r0_weights v_r0_things v_r0_kinds v_r0_figures v_r0_days v_r0_hampers v_r0_wants0 v_r0_left0 v_r0_done0 v_r0_refusals v_r0_letters v_r0_letterMany v_r0_at v_r0_isBad v_r0_statements v_r0_placeIn v_r0_letterOf v_r0_told v_r0_kept v_r0_imaged v_r0_hasImage v_r0_place0 v_r0_isTaking v_r0_keptIn v_r0_turns0 v_r0_turnOf v_r0_turned v_r0_order0 v_r0_likely0 v_r0_leftThen v_r0_row v_r0_seed r0_rowMany r0_thrown)) (Qc := fun A => qI D (w_M_clear cI a_r0 v_r0_weights v_r0_things v_r0_kinds v_r0_figures v_r0_days v_r0_hampers v_r0_wants0 v_r0_left0 v_r0_done0 v_r0_refusals v_r0_letters v_r0_letterMany v_r0_at v_r0_isBad v_r0_statements v_r0_placeIn v_r0_letterOf v_r0_told v_r0_kept v_r0_imaged v_r0_hasImage v_r0_place0 v_r0_isTaking v_r0_keptIn v_r0_turns0 v_r0_turnOf v_r0_turned v_r0_order0 v_r0_likely0 v_r0_leftThen v_r0_row v_r0_seed o.2.1 o.2.2) o.1 A) rfl (Nat.le_of_ble_eq_true rfl) ?_ sz⟩
  intro p e s m below meth c A hA C hret ls hl hW
  have C : cx p s m ([.ref a_r0] : List Value).toArray meth c b_M_clear 2 R_M D (kTy cI cS) (Cond.code y_M_clear b_M_clear 2 (some FieldType.int)) := C
  obtain ⟨hx, hb, hml, hown, hts, hK, hlk, hN⟩ := id C
  have hl : lv_has ls 2 [(0, .ref a_r0)] := hl
  obtain ⟨Q, hQ⟩ : ∃ Q, Q = MQ below (qI D (w_M_clear cI a_r0 v_r0_weights v_r0_things v_r0_kinds v_r0_figures v_r0_days v_r0_hampers v_r0_wants0 v_r0_left0 v_r0_done0 v_r0_refusals v_r0_letters v_r0_letterMany v_r0_at v_r0_isBad v_r0_statements v_r0_placeIn v_r0_letterOf v_r0_told v_r0_kept v_r0_imaged v_r0_hasImage v_r0_place0 v_r0_isTaking v_r0_keptIn v_r0_turns0 v_r0_turnOf v_r0_turned v_r0_order0 v_r0_likely0 v_r0_leftThen v_r0_row v_r0_seed o.2.1 o.2.2) o.1 A) ([.ref a_r0] : List Value).toArray s 0 0 A := ⟨_, rfl⟩
  rw [← hQ]
  refine lv_aload_n hx hb d_M_clear_0 rfl (lv_at hl 0 rfl) ?_
  refine lv_iconst (v := 0) hx hb d_M_clear_1 (by decide) ?_
  refine k_put i_M t_M_ok n_M C hW 0 rfl rfl 9 (by decide) qf_M_67 rfl rfl (ty := .int) rfl rfl rfl (Nat.le_of_ble_eq_true rfl) (ws' := (w_M_clear cI a_r0 v_r0_weights v_r0_things v_r0_kinds v_r0_figures v_r0_days v_r0_hampers v_r0_wants0 v_r0_left0 v_r0_done0 v_r0_refusals v_r0_letters v_r0_letterMany v_r0_at v_r0_isBad v_r0_statements v_r0_placeIn v_r0_letterOf v_r0_told v_r0_kept v_r0_imaged v_r0_hasImage v_r0_place0 v_r0_isTaking v_r0_keptIn v_r0_turns0 v_r0_turnOf v_r0_turned v_r0_order0 v_r0_likely0 v_r0_leftThen v_r0_row v_r0_seed r0_rowMany 0)) rfl d_M_clear_2 (fun H locs hW => ?_)
  refine lv_aload_n hx hb d_M_clear_5 rfl (lv_at hl 0 rfl) ?_
  refine k_get i_M C hW 0 rfl rfl 32 (by decide) qf_M_252 rfl rfl d_M_clear_6 ?_
  refine lv_istore_n (lv' := [(1, .int r0_rowMany), (0, .ref a_r0)]) hx hb d_M_clear_9 rfl hl (by decide) rfl (fun ls hl => ?_)
  refine lv_aload_n hx hb d_M_clear_10 rfl (lv_at hl 1 rfl) ?_
  refine lv_iconst (v := 0) hx hb d_M_clear_11 (by decide) ?_
  refine k_put i_M t_M_ok n_M C hW 0 rfl rfl 32 (by decide) qf_M_252 rfl rfl (ty := .int) rfl rfl rfl (Nat.le_of_ble_eq_true rfl) (ws' := (w_M_clear cI a_r0 v_r0_weights v_r0_things v_r0_kinds v_r0_figures v_r0_days v_r0_hampers v_r0_wants0 v_r0_left0 v_r0_done0 v_r0_refusals v_r0_letters v_r0_letterMany v_r0_at v_r0_isBad v_r0_statements v_r0_placeIn v_r0_letterOf v_r0_told v_r0_kept v_r0_imaged v_r0_hasImage v_r0_place0 v_r0_isTaking v_r0_keptIn v_r0_turns0 v_r0_turnOf v_r0_turned v_r0_order0 v_r0_likely0 v_r0_leftThen v_r0_row v_r0_seed 0 0)) rfl d_M_clear_12 (fun H locs hW => ?_)
  refine lv_iload_n hx hb d_M_clear_15 rfl (lv_at hl 0 rfl) ?_
  obtain rfl := Option.some.inj hr
  rw [hQ]; exact k_iret C hret hW d_M_clear_16
