theorem qk_law_7 : Cond.classLink R_law 7 R_H ∈ lw_g := q_at (i := 65) (by decide +kernel) rfl
theorem qk_law_10 : Cond.classLink R_law 10 R_M ∈ lw_g := q_at (i := 968) (by decide +kernel) rfl
theorem qi_H : Cond.instantiable R_H 10 ∈ lw_g := q_at (i := 66) (by decide +kernel) rfl
theorem qn_H : Cond.initialized R_H ∈ lw_g := q_at (i := 48) (by decide +kernel) rfl
theorem qj_H : Cond.instanceMethod y_H_init ∈ lw_g := q_at (i := 68) (by decide +kernel) rfl
theorem qi_M : Cond.instantiable R_M 34 ∈ lw_g := q_at (i := 969) (by decide +kernel) rfl
theorem qn_M : Cond.initialized R_M ∈ lw_g := q_at (i := 57) (by decide +kernel) rfl
theorem qj_M : Cond.instanceMethod y_M_init ∈ lw_g := q_at (i := 971) (by decide +kernel) rfl
theorem va_AO_spec {C : String} {s : State} (h : va_AO C s) : ∃ (cS : ClassId) (kS : Class) (comp : ClassId), s.vm.findClass ("[" ++ (FieldType.object C).toString) = some cS ∧ s.vm.classes[cS]? = some kS ∧ kS.kind = .array comp (.object C) ∧ s.vm.findClass C = some comp := by
  obtain ⟨comp, c, k, h1, h2, h3, h4, h5⟩ := Cond.arrayOver_spec h
  exact ⟨c, k, comp, h5, h3, h4, h1⟩
set_option maxHeartbeats 4000000 in
set_option maxRecDepth 100000 in
theorem P_init : Inv (0 : Int32) (0 : Int32) (0 : Int32) ((upd (upd (upd (upd (upd (upd (fun _ => 0) 0 1) 1 1) 2 1) 3 1) 4 1) 5 1) : Nat → Int32) ((fun _ => 0) : Nat → Int32) ((fun _ => 0) : Nat → Int32) ((fun _ => 0) : Nat → Int32) ((fun _ => 0) : Nat → Int32) ((upd (upd (upd (upd (fun _ => 0) 0 63) 1 63) 2 63) 3 63) : Nat → Int32) ((fun _ => 0) : Nat → Int32) (0 : Int32) (0 : Int32) (0 : Int32) (0 : Int32) ((upd (upd (upd (upd (upd (upd (fun _ => 0) 0 1) 1 1) 2 1) 3 1) 4 1) 5 1) : Nat → Int32) ((fun _ => 0) : Nat → Int32) ((fun _ => 0) : Nat → Int32) ((fun _ => 0) : Nat → Int32) ((fun _ => 0) : Nat → Int32) ((upd (upd (upd (upd (fun _ => 0) 0 63) 1 63) 2 63) 3 63) : Nat → Int32) ((fun _ => 0) : Nat → Int32) ((fun _ => 0) : Nat → Int32) (0 : Int32) ((fun i => i) : Nat → Nat) ((fun _ => 0) : Nat → Int32) ((fun _ => 0) : Nat → Int32) ((fun _ => 0) : Nat → Int32) ((fun _ => 0) : Nat → Int32) ((fun _ => 0) : Nat → Int32) ((fun _ => 0) : Nat → Int32) ((fun _ => 0) : Nat → Int32) (0 : Int32) ((fun _ => 0) : Nat → Int32) (0 : Int32) := by
  refine ⟨IS_first (fun j hj => by rcases (show j = 0 ∨ j = 1 ∨ j = 2 ∨ j = 3 ∨ j = 4 ∨ j = 5 by omega) with rfl | rfl | rfl | rfl | rfl | rfl <;> rfl) (fun j hj => by rcases (show j = 0 ∨ j = 1 ∨ j = 2 ∨ j = 3 by omega) with rfl | rfl | rfl | rfl <;> rfl) (fun j => rfl), Or.inl rfl, ⟨⟨fun i h => h, fun i j _ _ h => h⟩, 0, by omega, rfl, trivial⟩, ⟨0, by omega, rfl, fun j hj => absurd hj (by omega)⟩, ⟨0, by omega, rfl, fun j hj => absurd hj (by omega)⟩⟩
set_option maxHeartbeats 4000000 in
set_option maxRecDepth 100000 in
/-- THE LAW'S LOOP -/
theorem law_loop {p : Program} {l : Launch} {e : Env} {s : State} {m : MethodId} {below : List Frame} {meth : Method} {c : Code} {D : va_G} {cI cS : ClassId} {b L : Nat} {xs : Nat → Int32} (X : lcx p s m meth c D cI cS b L xs) (hr : meth.sig.returnType = ret) (hlocks : meth.locks = false) (hL : L ≤ 2048) {a b2 : Nat} {u v : Nat → Nat} :
    ∀ (n i : Nat), i ≤ L + 3 → L + 4 ≤ i + 4 * n → ∀ (H : Heap) (locs : List Loc) (ls : Array Slot), LW s D cI cS a u b2 v H locs → lv_has ls 4 [(0, .ref b), (1, .ref a), (2, .ref b2), (3, .int (nI i))] → W p l e room_1 s m #[Value.ref b] below meth c H locs 71 1300 (lw_Z below #[Value.ref b] s) (F0 m 18 ls []) := by
  intro n
  induction n with
  | zero => intro i h1 h2; exact absurd h2 (by omega)
  | succ n ih =>
    intro i h1 h2 H locs ls hLW hl
    have X0 := X
    obtain ⟨C, hX, hbl⟩ := X0
    obtain ⟨hx, hb, hml, hown, hts, hK, hlk, hN⟩ := id C
    have hS := hLW
    obtain ⟨hk, th, dy, dn, wt, kd, fg, go, hm, wi, lf, kth, kdy, kdn, kwt, kkd, kfg, kgo, khm, kwi, klf, tth, tdy, tdn, twt, tkd, tfg, tgo, thm, twi, tlf, sc, sg, sp, sl, sb, sf, sd, lc, lt, nc, nu, h_days, h_counted, h_atMost, h_most, h_oneIn, h_lotsDone, h_lotsNone, h_fields_wishes, h_fields_lefts, h_weathers, h_path, h_best, f_above, f_below, rf, m_thrown, m_at, m_isBad, m_statements, m_place0, m_isTaking, m_keptIn, m_seed, m_placeIn, m_letterOf, m_told, m_kept, im, tu, m_turnOf, m_order0, m_likely0, m_leftThen, hI, hW⟩ := hS
    have hS := hW.2.2
    refine lv_iload_n hx hb d_law_18 rfl (lv_at hl 3 rfl) ?_
    refine lv_aload_n hx hb d_law_19 rfl (lv_at hl 0 rfl) ?_
    refine va_slen hx hb hX hbl (Nat.not_le.mpr hbl) hS d_law_20 ?_
    refine lv_iconst (v := 4) hx hb d_law_21 (by decide) ?_
    refine lv_isub hx hb d_law_22 ?_
    refine lv_icmp_gt (tgt := 1333) hx hb d_law_23 (by decide) (fun c_1 => ?_) (fun c_1 => ?_)
    · refine lv_iconst (v := 1) hx hb d_law_1333 (by decide) ?_
      refine va_forget (fun q hq => hS.2.2 q hq) ?_
      refine W.widen (k := 600000) (n := 7302250) (Nat.le_of_ble_eq_true rfl) (Nat.le_of_ble_eq_true rfl) ?_
      exact lw_ret hx hb hr hlocks d_law_1334
    · have hi : i + 4 ≤ L := by
        rw [Int32.not_lt, Int32.le_iff_toInt_le, nI_toInt (by omega)] at c_1
        have e1 : (Int32.ofNat L - 4).toInt = (L : Int) - 4 := by
          have e0 : (Int32.ofNat L).toInt = (L : Int) := nI_toInt (n := L) (by omega)
          rw [Int32.toInt_sub, e0, show (4 : Int32).toInt = 4 from rfl]
          exact Int.bmod_eq_of_le (by omega) (by omega)
        rw [e1] at c_1
        omega
      have kk : ∀ (H : Heap) (locs : List Loc) (ls : Array Slot), LW s D cI cS a u b2 v H locs → lv_has ls 4 [(0, .ref b), (1, .ref a), (2, .ref b2), (3, .int (nI i))] → W p l e room_1 s m #[Value.ref b] below meth c H locs 71 1300 (lw_Z below #[Value.ref b] s) (F0 m 1327 ls []) := by
        intro H locs ls hLW hl
        refine lv_iinc (v := nI (i + 4)) (lv' := [(3, .int (nI (i + 4))), (0, .ref b), (1, .ref a), (2, .ref b2)]) hx hb d_law_1327 hl (k := 3) rfl (nI_add i 4) (by decide) rfl (fun ls hl => ?_)
        refine lv_goto (tgt := 18) hx hb d_law_1330 (by decide) ?_
        exact ih (i + 4) (by omega) (by omega) H locs ls hLW (lv_sub hl [1, 2, 3, 0] rfl)
      refine lv_aload_n hx hb d_law_26 rfl (lv_at hl 0 rfl) ?_
      refine lv_iload_n hx hb d_law_27 rfl (lv_at hl 3 rfl) ?_
      refine va_sld hx hb hX hbl (Nat.not_le.mpr hbl) hS (sc_in0 hi hL) d_law_28 ?_
      refine lv_bipush (v := 63) hx hb d_law_29 (by decide) ?_
      refine lv_iand hx hb d_law_31 ?_
      generalize xs (Int32.toNatClampNeg (nI i)) &&& 63 = w
      by_cases c_100 : w = 0
      · refine k_tabIn (tgt := 228) (off := 196) c_100 hx hb d_law_32 (by decide +kernel) (by decide +kernel) (by decide +kernel) (by decide) ?_
        exact law_0 X hL hI hW hi hl kk
      by_cases c_101 : w = 1
      · refine k_tabIn (tgt := 251) (off := 219) c_101 hx hb d_law_32 (by decide +kernel) (by decide +kernel) (by decide +kernel) (by decide) ?_
        exact law_1 X hL hI hW hi hl kk
      by_cases c_102 : w = 2
      · refine k_tabIn (tgt := 264) (off := 232) c_102 hx hb d_law_32 (by decide +kernel) (by decide +kernel) (by decide +kernel) (by decide) ?_
        exact law_2 X hL hI hW hi hl kk
      by_cases c_103 : w = 3
      · refine k_tabIn (tgt := 297) (off := 265) c_103 hx hb d_law_32 (by decide +kernel) (by decide +kernel) (by decide +kernel) (by decide) ?_
        exact law_3 X hL hI hW hi hl kk
      by_cases c_104 : w = 4
      · refine k_tabIn (tgt := 330) (off := 298) c_104 hx hb d_law_32 (by decide +kernel) (by decide +kernel) (by decide +kernel) (by decide) ?_
        exact law_4 X hL hI hW hi hl kk
      by_cases c_105 : w = 5
      · refine k_tabIn (tgt := 363) (off := 331) c_105 hx hb d_law_32 (by decide +kernel) (by decide +kernel) (by decide +kernel) (by decide) ?_
        exact law_5 X hL hI hW hi hl kk
      by_cases c_106 : w = 6
      · refine k_tabIn (tgt := 386) (off := 354) c_106 hx hb d_law_32 (by decide +kernel) (by decide +kernel) (by decide +kernel) (by decide) ?_
        exact law_6 X hL hI hW hi hl kk
      by_cases c_107 : w = 7
      · refine k_tabIn (tgt := 419) (off := 387) c_107 hx hb d_law_32 (by decide +kernel) (by decide +kernel) (by decide +kernel) (by decide) ?_
        exact law_7 X hL hI hW hi hl kk
      by_cases c_108 : w = 8
      · refine k_tabIn (tgt := 442) (off := 410) c_108 hx hb d_law_32 (by decide +kernel) (by decide +kernel) (by decide +kernel) (by decide) ?_
        exact law_8 X hL hI hW hi hl kk
      by_cases c_109 : w = 9
      · refine k_tabIn (tgt := 475) (off := 443) c_109 hx hb d_law_32 (by decide +kernel) (by decide +kernel) (by decide +kernel) (by decide) ?_
        exact law_9 X hL hI hW hi hl kk
      by_cases c_110 : w = 10
      · refine k_tabIn (tgt := 508) (off := 476) c_110 hx hb d_law_32 (by decide +kernel) (by decide +kernel) (by decide +kernel) (by decide) ?_
        exact law_10 X hL hI hW hi hl kk
      by_cases c_111 : w = 11
      · refine k_tabIn (tgt := 551) (off := 519) c_111 hx hb d_law_32 (by decide +kernel) (by decide +kernel) (by decide +kernel) (by decide) ?_
        exact law_11 X hL hI hW hi hl kk
      by_cases c_112 : w = 12
      · refine k_tabIn (tgt := 584) (off := 552) c_112 hx hb d_law_32 (by decide +kernel) (by decide +kernel) (by decide +kernel) (by decide) ?_
        exact law_12 X hL hI hW hi hl kk
      by_cases c_113 : w = 13
      · refine k_tabIn (tgt := 597) (off := 565) c_113 hx hb d_law_32 (by decide +kernel) (by decide +kernel) (by decide +kernel) (by decide) ?_
        exact law_13 X hL hI hW hi hl kk
      by_cases c_114 : w = 14
      · refine k_tabIn (tgt := 641) (off := 609) c_114 hx hb d_law_32 (by decide +kernel) (by decide +kernel) (by decide +kernel) (by decide) ?_
        exact law_14 X hL hI hW hi hl kk
      by_cases c_115 : w = 15
      · refine k_tabIn (tgt := 664) (off := 632) c_115 hx hb d_law_32 (by decide +kernel) (by decide +kernel) (by decide +kernel) (by decide) ?_
        exact law_15 X hL hI hW hi hl kk
      by_cases c_116 : w = 16
      · refine k_tabIn (tgt := 697) (off := 665) c_116 hx hb d_law_32 (by decide +kernel) (by decide +kernel) (by decide +kernel) (by decide) ?_
        exact law_16 X hL hI hW hi hl kk
      by_cases c_117 : w = 17
      · refine k_tabIn (tgt := 710) (off := 678) c_117 hx hb d_law_32 (by decide +kernel) (by decide +kernel) (by decide +kernel) (by decide) ?_
        exact law_17 X hL hI hW hi hl kk
      by_cases c_118 : w = 18
      · refine k_tabIn (tgt := 733) (off := 701) c_118 hx hb d_law_32 (by decide +kernel) (by decide +kernel) (by decide +kernel) (by decide) ?_
        exact law_18 X hL hI hW hi hl kk
      by_cases c_119 : w = 19
      · refine k_tabIn (tgt := 746) (off := 714) c_119 hx hb d_law_32 (by decide +kernel) (by decide +kernel) (by decide +kernel) (by decide) ?_
        exact law_19 X hL hI hW hi hl kk
      by_cases c_120 : w = 20
      · refine k_tabIn (tgt := 759) (off := 727) c_120 hx hb d_law_32 (by decide +kernel) (by decide +kernel) (by decide +kernel) (by decide) ?_
        exact law_20 X hL hI hW hi hl kk
      by_cases c_121 : w = 21
      · refine k_tabIn (tgt := 782) (off := 750) c_121 hx hb d_law_32 (by decide +kernel) (by decide +kernel) (by decide +kernel) (by decide) ?_
        exact law_21 X hL hI hW hi hl kk
      by_cases c_122 : w = 22
      · refine k_tabIn (tgt := 805) (off := 773) c_122 hx hb d_law_32 (by decide +kernel) (by decide +kernel) (by decide +kernel) (by decide) ?_
        exact law_22 X hL hI hW hi hl kk
      by_cases c_123 : w = 23
      · refine k_tabIn (tgt := 818) (off := 786) c_123 hx hb d_law_32 (by decide +kernel) (by decide +kernel) (by decide +kernel) (by decide) ?_
        exact law_23 X hL hI hW hi hl kk
      by_cases c_124 : w = 24
      · refine k_tabIn (tgt := 841) (off := 809) c_124 hx hb d_law_32 (by decide +kernel) (by decide +kernel) (by decide +kernel) (by decide) ?_
        exact law_24 X hL hI hW hi hl kk
      by_cases c_125 : w = 25
      · refine k_tabIn (tgt := 874) (off := 842) c_125 hx hb d_law_32 (by decide +kernel) (by decide +kernel) (by decide +kernel) (by decide) ?_
        exact law_25 X hL hI hW hi hl kk
      by_cases c_126 : w = 26
      · refine k_tabIn (tgt := 887) (off := 855) c_126 hx hb d_law_32 (by decide +kernel) (by decide +kernel) (by decide +kernel) (by decide) ?_
        exact law_26 X hL hI hW hi hl kk
      by_cases c_127 : w = 27
      · refine k_tabIn (tgt := 900) (off := 868) c_127 hx hb d_law_32 (by decide +kernel) (by decide +kernel) (by decide +kernel) (by decide) ?_
        exact law_27 X hL hI hW hi hl kk
      by_cases c_128 : w = 28
      · refine k_tabIn (tgt := 933) (off := 901) c_128 hx hb d_law_32 (by decide +kernel) (by decide +kernel) (by decide +kernel) (by decide) ?_
        exact law_28 X hL hI hW hi hl kk
      by_cases c_129 : w = 29
      · refine k_tabIn (tgt := 967) (off := 935) c_129 hx hb d_law_32 (by decide +kernel) (by decide +kernel) (by decide +kernel) (by decide) ?_
        exact law_29 X hL hI hW hi hl kk
      by_cases c_130 : w = 30
      · refine k_tabIn (tgt := 1000) (off := 968) c_130 hx hb d_law_32 (by decide +kernel) (by decide +kernel) (by decide +kernel) (by decide) ?_
        exact law_30 X hL hI hW hi hl kk
      by_cases c_131 : w = 31
      · refine k_tabIn (tgt := 1044) (off := 1012) c_131 hx hb d_law_32 (by decide +kernel) (by decide +kernel) (by decide +kernel) (by decide) ?_
        exact law_31 X hL hI hW hi hl kk
      by_cases c_132 : w = 32
      · refine k_tabIn (tgt := 1067) (off := 1035) c_132 hx hb d_law_32 (by decide +kernel) (by decide +kernel) (by decide +kernel) (by decide) ?_
        exact law_32 X hL hI hW hi hl kk
      by_cases c_133 : w = 33
      · refine k_tabIn (tgt := 1080) (off := 1048) c_133 hx hb d_law_32 (by decide +kernel) (by decide +kernel) (by decide +kernel) (by decide) ?_
        exact law_33 X hL hI hW hi hl kk
      by_cases c_134 : w = 34
      · refine k_tabIn (tgt := 1103) (off := 1071) c_134 hx hb d_law_32 (by decide +kernel) (by decide +kernel) (by decide +kernel) (by decide) ?_
        exact law_34 X hL hI hW hi hl kk
      by_cases c_135 : w = 35
      · refine k_tabIn (tgt := 1126) (off := 1094) c_135 hx hb d_law_32 (by decide +kernel) (by decide +kernel) (by decide +kernel) (by decide) ?_
        exact law_35 X hL hI hW hi hl kk
      by_cases c_136 : w = 36
      · refine k_tabIn (tgt := 1150) (off := 1118) c_136 hx hb d_law_32 (by decide +kernel) (by decide +kernel) (by decide +kernel) (by decide) ?_
        exact law_36 X hL hI hW hi hl kk
      by_cases c_137 : w = 37
      · refine k_tabIn (tgt := 1173) (off := 1141) c_137 hx hb d_law_32 (by decide +kernel) (by decide +kernel) (by decide +kernel) (by decide) ?_
        exact law_37 X hL hI hW hi hl kk
      by_cases c_138 : w = 38
      · refine k_tabIn (tgt := 1186) (off := 1154) c_138 hx hb d_law_32 (by decide +kernel) (by decide +kernel) (by decide +kernel) (by decide) ?_
        exact law_38 X hL hI hW hi hl kk
      by_cases c_139 : w = 39
      · refine k_tabIn (tgt := 1209) (off := 1177) c_139 hx hb d_law_32 (by decide +kernel) (by decide +kernel) (by decide +kernel) (by decide) ?_
        exact law_39 X hL hI hW hi hl kk
      by_cases c_140 : w = 40
      · refine k_tabIn (tgt := 1222) (off := 1190) c_140 hx hb d_law_32 (by decide +kernel) (by decide +kernel) (by decide +kernel) (by decide) ?_
        exact law_40 X hL hI hW hi hl kk
      by_cases c_141 : w = 41
      · refine k_tabIn (tgt := 1235) (off := 1203) c_141 hx hb d_law_32 (by decide +kernel) (by decide +kernel) (by decide +kernel) (by decide) ?_
        exact law_41 X hL hI hW hi hl kk
      by_cases c_142 : w = 42
      · refine k_tabIn (tgt := 1278) (off := 1246) c_142 hx hb d_law_32 (by decide +kernel) (by decide +kernel) (by decide +kernel) (by decide) ?_
        exact law_42 X hL hI hW hi hl kk
      by_cases c_143 : w = 43
      · refine k_tabIn (tgt := 1291) (off := 1259) c_143 hx hb d_law_32 (by decide +kernel) (by decide +kernel) (by decide +kernel) (by decide) ?_
        exact law_43 X hL hI hW hi hl kk
      by_cases c_144 : w = 44
      · refine k_tabIn (tgt := 1304) (off := 1272) c_144 hx hb d_law_32 (by decide +kernel) (by decide +kernel) (by decide +kernel) (by decide) ?_
        exact law_44 X hL hI hW hi hl kk
      refine k_tabDef (tgt := 1327) [0, 1, 2, 3, 4, 5, 6, 7, 8, 9, 10, 11, 12, 13, 14, 15, 16, 17, 18, 19, 20, 21, 22, 23, 24, 25, 26, 27, 28, 29, 30, 31, 32, 33, 34, 35, 36, 37, 38, 39, 40, 41, 42, 43, 44] (by decide +kernel) (by simp only [List.forall_mem_cons]; exact ⟨c_100, c_101, c_102, c_103, c_104, c_105, c_106, c_107, c_108, c_109, c_110, c_111, c_112, c_113, c_114, c_115, c_116, c_117, c_118, c_119, c_120, c_121, c_122, c_123, c_124, c_125, c_126, c_127, c_128, c_129, c_130, c_131, c_132, c_133, c_134, c_135, c_136, c_137, c_138, c_139, c_140, c_141, c_142, c_143, c_144, fun _ h => absurd h List.not_mem_nil⟩) hx hb d_law_32 (by decide) ?_
      exact kk H locs ls hLW hl
set_option maxHeartbeats 4000000 in
set_option maxRecDepth 100000 in
/-- THE LAW, from its entry -/
theorem whole_start {p : Program} {e : Env} {s : State} {m : MethodId} {below : List Frame} {meth : Method} {c : Code} (l : Launch) (hflags : l.flags = flags0) {b L : Nat} {xs : Nat → Int32} (hL : L ≤ 2048) (C0 : lw_At p s m meth c b L xs) : W p l e room_1 s m #[Value.ref b] below meth c s.heap [] 0 0 (lw_Z below #[Value.ref b] s) (entryFrame m ([Value.ref b] : List Value).toArray 4) := by
  obtain ⟨hx, hb, hr, hml, hown, hts, hX, hbl, hlocks, hgv⟩ := id C0
  have hA : ∀ q : Nat, s.heap.size ≤ q → (fun q : Nat => s.heap.size ≤ q) q := fun _ h => h
  obtain ⟨c0, iS0, hKn0⟩ := u_known (C := R_H) (T := F_H) (N := 10) (n := 10) hts (fun w h => List.mem_filter.mp (i_H w h) |>.1) (hts _ (List.mem_filter.mp qi_H).1)
  obtain ⟨c1, iS1, hKn1⟩ := u_known (C := R_Sta) (T := F_Sta) (N := 9) (n := 9) hts (fun w h => List.mem_filter.mp (i_Sta w h) |>.1) (hts _ (List.mem_filter.mp qi_Sta).1)
  obtain ⟨c2, iS2, hKn2⟩ := u_known (C := R_Fld) (T := F_Fld) (N := 2) (n := 2) hts (fun w h => List.mem_filter.mp (i_Fld w h) |>.1) (hts _ (List.mem_filter.mp qi_Fld).1)
  obtain ⟨c3, iS3, hKn3⟩ := u_known (C := R_Sps) (T := F_Sps) (N := 2) (n := 2) hts (fun w h => List.mem_filter.mp (i_Sps w h) |>.1) (hts _ (List.mem_filter.mp qi_Sps).1)
  obtain ⟨c4, iS4, hKn4⟩ := u_known (C := R_Stp) (T := F_Stp) (N := 5) (n := 5) hts (fun w h => List.mem_filter.mp (i_Stp w h) |>.1) (hts _ (List.mem_filter.mp qi_Stp).1)
  obtain ⟨c5, iS5, hKn5⟩ := u_known (C := R_Let) (T := F_Let) (N := 2) (n := 2) hts (fun w h => List.mem_filter.mp (i_Let w h) |>.1) (hts _ (List.mem_filter.mp qi_Let).1)
  obtain ⟨c6, iS6, hKn6⟩ := u_known (C := R_Num) (T := F_Num) (N := 2) (n := 2) hts (fun w h => List.mem_filter.mp (i_Num w h) |>.1) (hts _ (List.mem_filter.mp qi_Num).1)
  obtain ⟨c7, iS7, hKn7⟩ := u_known (C := R_Har) (T := F_Har) (N := 11) (n := 11) hts (fun w h => List.mem_filter.mp (i_Har w h) |>.1) (hts _ (List.mem_filter.mp qi_Har).1)
  obtain ⟨c8, iS8, hKn8⟩ := u_known (C := R_Frc) (T := F_Frc) (N := 2) (n := 2) hts (fun w h => List.mem_filter.mp (i_Frc w h) |>.1) (hts _ (List.mem_filter.mp qi_Frc).1)
  obtain ⟨c9, iS9, hKn9⟩ := u_known (C := R_M) (T := F_M) (N := 34) (n := 34) hts (fun w h => List.mem_filter.mp (i_M w h) |>.1) (hts _ (List.mem_filter.mp qi_M).1)
  obtain ⟨dC, dI, hKc⟩ : ∃ (dC : Nat → ClassId) (dI : Nat → Nat → Nat), ∀ (k : Nat) (q : vw_C), classes[k]? = some q → u_Kn s q.1 q.2.1 q.2.2 (dC k) (dI k) := by
    refine ⟨fun k => if k = 0 then c0 else if k = 1 then c1 else if k = 2 then c2 else if k = 3 then c3 else if k = 4 then c4 else if k = 5 then c5 else if k = 6 then c6 else if k = 7 then c7 else if k = 8 then c8 else c9, fun k => if k = 0 then iS0 else if k = 1 then iS1 else if k = 2 then iS2 else if k = 3 then iS3 else if k = 4 then iS4 else if k = 5 then iS5 else if k = 6 then iS6 else if k = 7 then iS7 else if k = 8 then iS8 else iS9, ?_⟩
    intro k q hq
    match k, hq with
    | 0, hq => cases hq; exact hKn0
    | 1, hq => cases hq; exact hKn1
    | 2, hq => cases hq; exact hKn2
    | 3, hq => cases hq; exact hKn3
    | 4, hq => cases hq; exact hKn4
    | 5, hq => cases hq; exact hKn5
    | 6, hq => cases hq; exact hKn6
    | 7, hq => cases hq; exact hKn7
    | 8, hq => cases hq; exact hKn8
    | 9, hq => cases hq; exact hKn9
    | k + 10, hq => simp [classes] at hq
  obtain ⟨cI, kI, compI, a1, a2, a3⟩ := Cond.arrayClass_spec (hts _ (List.mem_filter.mp qa_i).1)
  have hover : va_AO "HamperByWeather$Step" s := va_AO.of (hts _ (List.mem_of_getElem? (i := 153) (by decide +kernel)))
  obtain ⟨cS, kS, compS, b1, b2, b3, b4⟩ := va_AO_spec hover
  have hK : va_K (dC, dI) classes (kTy cI cS) s := by
    refine ⟨hKc, fun k q hk => ?_⟩
    match k, hk with
    | 0, hk =>
      cases hk
      exact ⟨fun n z => ⟨fun k h => (by cases h), kI, a2, compI, a3⟩, a1⟩
    | 1, hk =>
      cases hk
      exact ⟨fun n z => ⟨fun k h => (by cases h), kS, b2, compS, b3⟩, kS, compS, b2, b3, b4, b1⟩
    | k + 2, hk => simp [kTy] at hk
  have hN : kN s := ⟨fun w hw h1 => va_Nw.of (isNest_tab h1) (hts w hw), hover⟩
  have C : cx p s m #[Value.ref b] meth c code 4 R_law (dC, dI) (kTy cI cS) (Cond.initialized "HamperByWeather") := ⟨hx, hb, hml, hown, fun w hw => by
    rcases List.mem_cons.mp hw with rfl | h
    · exact hts _ (List.mem_filter.mp qn_H).1
    · exact hts w (List.mem_filter.mp h).1, hK, hlocks, hN⟩
  have hW : wd (fun q : Nat => s.heap.size ≤ q) s.heap (dC, dI) [] s.heap [] := ⟨fun k q h => by simp at h, ⟨fun i j p q h => by simp at h, fun k q h => by simp at h⟩, va_S.rf⟩
  have hl := lv_entry ([.ref b]) (n := 4) (Nat.le_of_ble_eq_true rfl)
  rw [lg_entry_eq]
  generalize (lg_sl ([.ref b]) ++ List.replicate (4 - (lg_sl ([.ref b])).length) Slot.unset).toArray = ls at hl ⊢
  have hl : lv_has ls 4 [(0, .ref b)] := hl
  refine k_new i_H t_H_ok C hA hW qk_law_7 qi_H qn_H (ci := 0) rfl (fs := [.null, .null, .null, .int 0, .null, .null, .null, .null, .null, .null]) (fun j hj => by rcases (show j = 0 ∨ j = 1 ∨ j = 2 ∨ j = 3 ∨ j = 4 ∨ j = 5 ∨ j = 6 ∨ j = 7 ∨ j = 8 ∨ j = 9 by omega) with rfl | rfl | rfl | rfl | rfl | rfl | rfl | rfl | rfl | rfl <;> rfl) ⟨Nat.le_of_ble_eq_true rfl, Nat.le_of_ble_eq_true rfl⟩ d_law_0 (fun a H hW => ?_)
  have hW : wd (fun q : Nat => s.heap.size ≤ q) s.heap (dC, dI) ([] ++ [(a, .inr (0, [.null, .null, .null, .int 0, .null, .null, .null, .null, .null, .null]))]) H _ := hW
  refine lv_dup hx hb d_law_3 rfl ?_
  refine k_goN [] hA hW (k_runI C hW mw_H_init qj_H rfl (N_H l (dC, dI) cI cS a) qm_law_9 ⟨Nat.le_of_ble_eq_true rfl, Nat.le_of_ble_eq_true rfl, Nat.le_of_ble_eq_true rfl, Nat.le_of_ble_eq_true rfl⟩ (Nat.le_of_ble_eq_true rfl) hl.1 d_law_4) (fun u H locs hW => ?_)
  refine lv_astore_n (lv' := [(1, .ref a), (0, .ref b)]) hx hb d_law_7 rfl hl (by decide) rfl (fun ls hl => ?_)
  refine k_new i_M t_M_ok C hA hW qk_law_10 qi_M qn_M (ci := 9) rfl (fs := [.null, .int 0, .null, .null, .int 0, .null, .null, .null, .int 0, .int 0, .null, .null, .int 0, .int 0, .int 0, .int 0, .null, .null, .null, .null, .null, .int 0, .int 0, .int 0, .null, .null, .null, .int 0, .null, .null, .null, .null, .int 0, .int 0]) (fun j hj => by rcases (show j = 0 ∨ j = 1 ∨ j = 2 ∨ j = 3 ∨ j = 4 ∨ j = 5 ∨ j = 6 ∨ j = 7 ∨ j = 8 ∨ j = 9 ∨ j = 10 ∨ j = 11 ∨ j = 12 ∨ j = 13 ∨ j = 14 ∨ j = 15 ∨ j = 16 ∨ j = 17 ∨ j = 18 ∨ j = 19 ∨ j = 20 ∨ j = 21 ∨ j = 22 ∨ j = 23 ∨ j = 24 ∨ j = 25 ∨ j = 26 ∨ j = 27 ∨ j = 28 ∨ j = 29 ∨ j = 30 ∨ j = 31 ∨ j = 32 ∨ j = 33 by omega) with rfl | rfl | rfl | rfl | rfl | rfl | rfl | rfl | rfl | rfl | rfl | rfl | rfl | rfl | rfl | rfl | rfl | rfl | rfl | rfl | rfl | rfl | rfl | rfl | rfl | rfl | rfl | rfl | rfl | rfl | rfl | rfl | rfl | rfl <;> rfl) ⟨Nat.le_of_ble_eq_true rfl, Nat.le_of_ble_eq_true rfl⟩ d_law_8 (fun b2 H hW => ?_)
  refine lv_dup hx hb d_law_11 rfl ?_
  refine k_goN _ hA hW (k_runI C hW mw_M_init qj_M rfl (N_M l (dC, dI) cI cS b2) qm_law_12 ⟨Nat.le_of_ble_eq_true rfl, Nat.le_of_ble_eq_true rfl, Nat.le_of_ble_eq_true rfl, Nat.le_of_ble_eq_true rfl⟩ (Nat.le_of_ble_eq_true rfl) hl.1 d_law_12) (fun v H locs hW => ?_)
  refine lv_astore_n (lv' := [(2, .ref b2), (1, .ref a), (0, .ref b)]) hx hb d_law_15 rfl hl (by decide) rfl (fun ls hl => ?_)
  refine lv_iconst (v := 0) hx hb d_law_16 (by decide) ?_
  refine lv_istore_n (lv' := [(3, .int 0), (2, .ref b2), (1, .ref a), (0, .ref b)]) hx hb d_law_17 rfl hl (by decide) rfl (fun ls hl => ?_)
  refine law_loop (a := a) (b2 := b2) (u := u) (v := v) ⟨C, hX, hbl⟩ hr hlocks hL (L + 1) 0 (by omega) (by omega) _ _ _ ⟨(0 : Int32), (0 : Int32), (0 : Int32), (0 : Int32), ((upd (upd (upd (upd (upd (upd (fun _ => 0) 0 1) 1 1) 2 1) 3 1) 4 1) 5 1) : Nat → Int32), ((fun _ => 0) : Nat → Int32), ((fun _ => 0) : Nat → Int32), ((fun _ => 0) : Nat → Int32), ((fun _ => 0) : Nat → Int32), ((upd (upd (upd (upd (fun _ => 0) 0 63) 1 63) 2 63) 3 63) : Nat → Int32), ((fun _ => 0) : Nat → Int32), (0 : Int32), (0 : Int32), (0 : Int32), ((upd (upd (upd (upd (upd (upd (fun _ => 0) 0 1) 1 1) 2 1) 3 1) 4 1) 5 1) : Nat → Int32), ((fun _ => 0) : Nat → Int32), ((fun _ => 0) : Nat → Int32), ((fun _ => 0) : Nat → Int32), ((fun _ => 0) : Nat → Int32), ((upd (upd (upd (upd (fun _ => 0) 0 63) 1 63) 2 63) 3 63) : Nat → Int32), ((fun _ => 0) : Nat → Int32), (0 : Int32), (0 : Int32), (0 : Int32), ((upd (upd (upd (upd (upd (upd (fun _ => 0) 0 1) 1 1) 2 1) 3 1) 4 1) 5 1) : Nat → Int32), ((fun _ => 0) : Nat → Int32), ((fun _ => 0) : Nat → Int32), ((fun _ => 0) : Nat → Int32), ((fun _ => 0) : Nat → Int32), ((upd (upd (upd (upd (fun _ => 0) 0 63) 1 63) 2 63) 3 63) : Nat → Int32), ((fun _ => 0) : Nat → Int32), (0 : Int32), ((fun i => i) : Nat → Nat), ((fun _ => 0) : Nat → Int32), ((fun _ => 0) : Nat → Int32), ((fun _ => 0) : Nat → Int32), ((fun _ => 0) : Nat → Int32), ((fun _ => 0) : Nat → Int32), (0 : Int32), ((fun _ => 0) : Nat → Int32), (0 : Int32), ((fun _ => 0) : Nat → Int32), (0 : Int32), (0 : Int32), (0 : Int32), (0 : Int32), (0 : Int32), (0 : Int32), (0 : Int32), ((fun _ => 0) : Nat → Int32), ((fun _ => 0) : Nat → Int32), ((fun _ => 0) : Nat → Int32), ((fun _ => 0) : Nat → Int32), ((fun _ => 0) : Nat → Int32), (0 : Int64), (0 : Int64), ((fun _ => 0) : Nat → Int32), (0 : Int32), (0 : Int32), (0 : Int32), (0 : Int32), (0 : Int32), (0 : Int32), (0 : Int32), (0 : Int32), ((fun _ => 0) : Nat → Int32), ((fun _ => 0) : Nat → Int32), ((fun _ => 0) : Nat → Int32), ((fun _ => 0) : Nat → Int32), ((fun _ => 0) : Nat → Int32), ((fun _ => 0) : Nat → Int32), ((fun _ => 0) : Nat → Int32), ((fun _ => 0) : Nat → Int32), ((fun _ => 0) : Nat → Int32), ((fun _ => 0) : Nat → Int32), P_init, ?_⟩ (lv_sub hl [3, 2, 1, 0] rfl)
  exact hW
