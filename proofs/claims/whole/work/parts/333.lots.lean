theorem M_lot {fg kd go : Nat → Int32} {n : Nat} (hn : n ≤ 8) (ht : ∀ j, j < n → ∃ k f, k < 6 ∧ f ≤ 9 ∧ kd j = nI k ∧ fg j = nI f ∧ go j = nI (gw k f)) (wt lf wi : Nat → Int32) (a dn z D Z : Int32) {i : Nat} (hi : i < 10) (eD : F_M_drawBelow z (nI (2 ^ n)) = some (D, Z)) {g : Nat} (g1 : g < 2 ^ n) (g2 : D = nI g) : F_M_lots_L64 fg kd (nI n) wi wt a (nI i) dn z lf = some (Sum.inl (a + (if LK go wt D = -9 then 1 else 0), nI (i + 1), spd lf wi (LK go wt D) dn, Z, spl lf wi (LK go wt D))) := by
  have eC : F_M_couldBe (nI n) fg kd D = some (CB go D) := by
    rw [g2]
    exact M_CB hn ht g1
  have eL : F_M_likeliest wt (CB go D) = some (LK go wt D) := by
    unfold LK
    exact M_likely _ _
  have eO := LK_or go wt D
  unfold F_M_lots_L64 F_M_lots_J103_14
  rw [if_neg (nleC 10 10 hi (by omega) rfl), shl_n hn, eD, Option.bind_some, eC, Option.bind_some, eL, Option.bind_some, M_spend eO, Option.bind_some, Option.bind_some, nI_1]
  rcases eO with c | ⟨w, hw, c⟩
  · rw [if_neg (show ¬ (0 : Int32) ≤ LK go wt D by rw [c]; decide), if_pos c]
  · rw [if_pos (show (0 : Int32) ≤ LK go wt D by rw [c, i32_le, nI_toInt (by omega), Int32.toInt_zero]; omega), if_neg (show ¬ LK go wt D = -9 by rw [c]; exact nI_ne9 (by omega))]
theorem M_summer {N : Nat} (hN : N = 10) {fg kd go : Nat → Int32} {n : Nat} (hn : n ≤ 8) (ht : ∀ j, j < n → ∃ k f, k < 6 ∧ f ≤ 9 ∧ kd j = nI k ∧ fg j = nI f ∧ go j = nI (gw k f)) (wt lf wi : Nat → Int32) (dn z : Int32) (s : Nat) : wh (fun (s : (Int32) × (Int32) × (Int32) × (Int32) × (Nat → Int32)) => F_M_lots_L64 fg kd (nI n) wi wt s.1 s.2.1 s.2.2.1 s.2.2.2.1 s.2.2.2.2) 400 (nI (nns go wt n z (N * s)), (0 : Int32), dn, zs z (N * s), lf) = some (nI (nns go wt n z (N * (s + 1))), gwd nsk (wes N go wt n z s) lf wi dn N, zs z (N * (s + 1)), gwl nsk (wes N go wt n z s) lf wi N) := by
  rw [Nat.mul_succ]
  refine wh_for (fun i => (nI (nns go wt n z (N * s + i)), nI i, gwd nsk (wes N go wt n z s) lf wi dn i, zs z (N * s + i), gwl nsk (wes N go wt n z s) lf wi i)) N _ (fun i hi => ?_) ?_ 400 (by omega)
  · show F_M_lots_L64 fg kd (nI n) wi wt (nI (nns go wt n z (N * s + i))) (nI i) (gwd nsk (wes N go wt n z s) lf wi dn i) (zs z (N * s + i)) (gwl nsk (wes N go wt n z s) lf wi i) = some (Sum.inl (nI (nns go wt n z (N * s + i + 1)), nI (i + 1), gwd nsk (wes N go wt n z s) lf wi dn (i + 1), zs z (N * s + i + 1), gwl nsk (wes N go wt n z s) lf wi (i + 1)))
    obtain ⟨g, g1, g2⟩ := dwn_n hn (zst (zs z (N * s + i)))
    rw [M_lot hn ht wt _ wi _ _ _ _ _ (show i < 10 by omega) (M_drawn hn _) g1 g2, nns, gwd, gwl, if_neg (nsk_n i), if_neg (nsk_n i), zs_s, wes_eq, wl_eq]
    by_cases c : LK go wt (dwn n (zst (zs z (N * s + i)))) = -9
    · rw [if_pos c, if_pos c, nI_1]
    · rw [if_neg c, if_neg c, Int32.add_zero]
  · show F_M_lots_L64 fg kd (nI n) wi wt _ (nI N) _ _ _ = _
    unfold F_M_lots_L64
    rw [if_pos (by rw [hN]; decide)]
theorem C_summers {N : Nat} (hN : N = 10) {go : Nat → Int32} {n : Nat} (hn : n ≤ 8) (h hw wt lf wi : Nat → Int32) (z : Int32) {v : Nat} (hv : v ≤ 20) : F_Har_summersByLot h hw (nI n) lf wi go wt (nI v) z = some (dns N go wt lf wi n z v, nI (nns go wt n z (N * v)), oLf N h go wt lf wi n z v, oWi hw wi v) := by
  unfold F_Har_summersByLot
  have e : wh (fun (s : (Int32) × (Int32) × (Int32) × (Int32) × (Nat → Int32) × (Nat → Int32)) => F_Har_summersByLot_L16 (nI n) lf wi go wt (nI v) s.1 s.2.1 s.2.2.1 s.2.2.2.1 s.2.2.2.2.1 s.2.2.2.2.2) 400 (z, (0 : Int32), (0 : Int32), (0 : Int32), h, hw) = some (dns N go wt lf wi n z v, nI (nns go wt n z (N * v)), oLf N h go wt lf wi n z v, oWi hw wi v) := by
    refine wh_for (fun i => (zs z (N * i), nI i, dns N go wt lf wi n z i, nI (nns go wt n z (N * i)), oLf N h go wt lf wi n z i, oWi hw wi i)) v _ (fun i hi => ?_) ?_ 400 (by omega)
    · show F_Har_summersByLot_L16 (nI n) lf wi go wt (nI v) (zs z (N * i)) (nI i) (dns N go wt lf wi n z i) (nI (nns go wt n z (N * i))) (oLf N h go wt lf wi n z i) (oWi hw wi i) = some (Sum.inl (zs z (N * (i + 1)), nI (i + 1), dns N go wt lf wi n z (i + 1), nI (nns go wt n z (N * (i + 1))), oLf N h go wt lf wi n z (i + 1), oWi hw wi (i + 1)))
      unfold F_Har_summersByLot_L16
      rw [if_neg (nI_leN hi (by omega)), C_copyF, Option.bind_some, oLf_cp, oWi_cp, C_summer hN hn, Option.bind_some, nI_1, oLf_s, oWi_s]
    · show F_Har_summersByLot_L16 (nI n) lf wi go wt (nI v) _ (nI v) _ _ _ _ = _
      unfold F_Har_summersByLot_L16
      rw [if_pos (by rw [i32_le]; omega)]
  rw [e, Option.bind_some]
theorem M_summers {N : Nat} (hN : N = 10) {fg kd go : Nat → Int32} {n : Nat} (hn : n ≤ 8) (ht : ∀ j, j < n → ∃ k f, k < 6 ∧ f ≤ 9 ∧ kd j = nI k ∧ fg j = nI f ∧ go j = nI (gw k f)) (wt lf wi hm kept : Nat → Int32) (dy dn z : Int32) {v : Nat} (hv : v ≤ 20) : wh (fun (s : (Int32) × (Int32) × (Int32) × (Int32) × (Int32) × (Int32) × (Int32) × (Int32) × (Int32) × (Int32) × (Nat → Int32) × (Nat → Int32) × (Nat → Int32) × (Nat → Int32) × (Nat → Int32) × (Nat → Int32) × (Nat → Int32)) => F_M_lots_L55 (aLf lf) (nI v) s.1 s.2.1 s.2.2.1 s.2.2.2.1 s.2.2.2.2.1 s.2.2.2.2.2.1 s.2.2.2.2.2.2.1 s.2.2.2.2.2.2.2.1 s.2.2.2.2.2.2.2.2.1 s.2.2.2.2.2.2.2.2.2.1 s.2.2.2.2.2.2.2.2.2.2.1 s.2.2.2.2.2.2.2.2.2.2.2.1 s.2.2.2.2.2.2.2.2.2.2.2.2.1 s.2.2.2.2.2.2.2.2.2.2.2.2.2.1 s.2.2.2.2.2.2.2.2.2.2.2.2.2.2.1 s.2.2.2.2.2.2.2.2.2.2.2.2.2.2.2.1 s.2.2.2.2.2.2.2.2.2.2.2.2.2.2.2.2) 400 ((0 : Int32), (0 : Int32), (0 : Int32), dy, dn, 1, 1, nI 41, z, nI n, fg, hm, cpf kept (evS (nI n) dy dn wt kd fg hm wi lf) 41, kd, lf, wi, wt) = some (dns N go wt lf wi n z v, nI (nns go wt n z (N * v)), dy, dn, (if v = 0 then 1 else 0), 1, nI 41, zs z (N * v), nI n, fg, hm, cpf kept (evS (nI n) dy dn wt kd fg hm wi lf) 41, kd, lf, wi, wt) := by
  refine wh_for (fun i => (dns N go wt lf wi n z i, nI (nns go wt n z (N * i)), nI i, dy, dn, (if i = 0 then (1 : Int32) else 0), (1 : Int32), nI 41, zs z (N * i), nI n, fg, hm, cpf kept (evS (nI n) dy dn wt kd fg hm wi lf) 41, kd, lf, wi, wt)) v _ (fun i hi => ?_) ?_ 400 (by omega)
  · show F_M_lots_L55 (aLf lf) (nI v) (dns N go wt lf wi n z i) (nI (nns go wt n z (N * i))) (nI i) dy dn (if i = 0 then (1 : Int32) else 0) (1 : Int32) (nI 41) (zs z (N * i)) (nI n) fg hm (cpf kept (evS (nI n) dy dn wt kd fg hm wi lf) 41) kd lf wi wt = some (Sum.inl (dns N go wt lf wi n z (i + 1), nI (nns go wt n z (N * (i + 1))), nI (i + 1), dy, dn, (if i + 1 = 0 then (1 : Int32) else 0), (1 : Int32), nI 41, zs z (N * (i + 1)), nI n, fg, hm, cpf kept (evS (nI n) dy dn wt kd fg hm wi lf) 41, kd, lf, wi, wt))
    have eB : cpf (gwl nsk (wes N go wt n z i) lf wi N) lf 4 = lf := cpf_back (fun j hj => rfl) (fun j hj => gwl_out nsk (wes N go wt n z i) lf wi hj N)
    unfold F_M_lots_L55
    rw [if_neg (nI_leN hi (by omega)), M_summer hN hn ht, Option.bind_some, M_all, Option.bind_some]
    show (F_M_again dy (gwd nsk (wes N go wt n z i) lf wi dn N) (nI n) fg hm (cpf kept (evS (nI n) dy dn wt kd fg hm wi lf) 41) kd (gwl nsk (wes N go wt n z i) lf wi N) wi wt).bind (fun q_17 => some (Sum.inl (dns N go wt lf wi n z i + (aLf lf - aLf (gwl nsk (wes N go wt n z i) lf wi N)), _))) = _
    rw [M_again (evS_Enc kept (nI n) dy dn wt kd fg hm wi lf), Option.bind_some, cpf_id, cpf_id, cpf_id, cpf_id, cpf_id, eB, gwl_got, nI_1, if_neg (show ¬ i + 1 = 0 by omega), dns_s]
  · show F_M_lots_L55 (aLf lf) (nI v) _ _ (nI v) _ _ _ _ _ _ _ _ _ _ _ _ _ _ = _
    unfold F_M_lots_L55
    rw [if_pos (by rw [i32_le]; omega)]
theorem P_lots {hk : Int32} {th : Int32} {dy : Int32} {dn : Int32} {wt : Nat → Int32} {kd : Nat → Int32} {fg : Nat → Int32} {go : Nat → Int32} {hm : Nat → Int32} {wi : Nat → Int32} {lf : Nat → Int32} {kth : Int32} {kdy : Int32} {kdn : Int32} {kwt : Nat → Int32} {kkd : Nat → Int32} {kfg : Nat → Int32} {kgo : Nat → Int32} {khm : Nat → Int32} {kwi : Nat → Int32} {klf : Nat → Int32} {sc : Int32} {sg : Nat → Nat} {sp : Nat → Int32} {sl : Nat → Int32} {sb : Nat → Int32} {sf : Nat → Int32} {sd : Nat → Int32} {lc : Int32} {lt : Nat → Int32} {nc : Int32} {nu : Nat → Int32} {h_lotsDone : Int32} {h_lotsNone : Int32} {h_fields_wishes : Nat → Int32} {h_fields_lefts : Nat → Int32} {rf : Nat → Int32} {m_place0 : Int32} {m_isTaking : Int32} {m_keptIn : Int32} {m_seed : Int32} {m_kept : Nat → Int32} {im : Nat → Int32} {tu : Nat → Int32} (hI : Inv th dy dn wt kd fg go hm wi lf hk kth kdy kdn kwt kkd kfg kgo khm kwi klf im sc sg sp sl sb sf sd tu lt lc nu nc) (x1 : Int32) (x2 : Int32) (x3 : Int32) : ∃ (r : Int32) (h_lotsDone' : Int32) (h_lotsNone' : Int32) (h_fields_wishes' : Nat → Int32) (h_fields_lefts' : Nat → Int32) (rf' : Nat → Int32) (m_thrown' : Int32) (m_place0' : Int32) (m_isTaking' : Int32) (m_keptIn' : Int32) (m_seed' : Int32) (m_kept' : Nat → Int32), F_H_lots h_lotsDone h_lotsNone h_fields_lefts h_fields_wishes th lf wi go wt rf x1 x2 x3 = some (r, h_lotsDone', h_lotsNone', h_fields_lefts', h_fields_wishes', rf') ∧ F_M_lots dy dn m_isTaking m_keptIn m_place0 m_seed th fg hm m_kept kd lf rf wi wt x1 x2 x3 = some (r, dy, dn, m_isTaking', m_keptIn', m_place0', m_seed', th, m_thrown', fg, hm, m_kept', kd, lf, rf', wi, wt) := by
  obtain ⟨⟨n, m, q, hn, hm8, hq, rfl, rfl, rfl, hw, ht, hd, hf⟩, -⟩ := hI
  obtain ⟨N, hN⟩ : ∃ N : Nat, N = 10 := ⟨10, rfl⟩
  by_cases c1 : (1 : Int32) ≤ x1
  · by_cases c2 : x1 ≤ 20
    · have e1 : F_M_wrongNumber x1 1 20 = some 0 := by unfold F_M_wrongNumber; rw [if_pos c1, if_pos c2]
      obtain ⟨v, hv, rfl⟩ : ∃ v, v ≤ 20 ∧ x1 = nI v := by
        rcases inR x1 21 (by omega) with ⟨v, hv, e⟩ | h | ⟨-, h⟩
        · exact ⟨v, by omega, e⟩
        · rw [i32_le, show (1 : Int32).toInt = 1 by decide +kernel] at c1
          rw [i32_lt, Int32.toInt_zero] at h
          omega
        · rw [i32_le, show (20 : Int32).toInt = 20 by decide +kernel] at c2
          rw [i32_le, nI_toInt (by omega)] at h
          omega
      rcases inR x3 2 (by omega) with ⟨w, hw2, rfl⟩ | h
      · have e2 : F_M_wrongBit 0 (nI w) 1 = some 0 := by
          unfold F_M_wrongBit
          rw [if_pos rfl, M_in0_y 2 (Int32.toInt64 1) hw2 (by omega) (by decide +kernel)]
          rfl
        have eJ : F_H_lots h_lotsDone h_lotsNone h_fields_lefts h_fields_wishes (nI n) lf wi go wt rf (nI v) x2 (nI w) = F_H_lots_J41_4 h_fields_lefts h_fields_wishes (nI n) lf wi go wt rf (nI v) x2 (nI w) := by
          unfold F_H_lots
          rw [if_pos c1, if_pos c2]
          rcases (show w = 0 ∨ w = 1 by omega) with rfl | rfl <;> rfl
        rw [eJ]
        unfold F_H_lots_J41_4 F_M_lots
        rw [C_summers hN hn _ _ _ _ _ _ hv, Option.bind_some, e1, Option.bind_some, e2, Option.bind_some, if_pos (show (0 : Int32) ≤ 0 by decide), M_all, Option.bind_some, M_think, Option.bind_some]
        have eM := M_summers hN (go := go) hn ht wt lf wi hm m_kept (nI m) (nI q) x2 hv
        rw [eM, Option.bind_some]
        rcases (show w = 0 ∨ w = 1 by omega) with rfl | rfl
        · rw [if_pos (show nI 0 = 0 from rfl), if_pos (show nI 0 = 0 from rfl)]
          exact ⟨_, _, _, _, _, rf, 0, _, _, _, _, _, rfl, rfl⟩
        · rw [if_neg (show ¬ nI 1 = 0 by decide), if_neg (show ¬ nI 1 = 0 by decide)]
          exact ⟨_, _, _, _, _, rf, 0, _, _, _, _, _, rfl, rfl⟩
      · have e2 : F_M_wrongBit 0 x3 1 = some (-2) := by
          unfold F_M_wrongBit
          rw [if_pos rfl, M_in0_n 2 (Int32.toInt64 1) h (by omega) (by omega) (by decide +kernel)]
          rfl
        refine ⟨-2, h_lotsDone, h_lotsNone, h_fields_wishes, h_fields_lefts, rfx rf 2, 0, m_place0, m_isTaking, m_keptIn, m_seed, m_kept, ?_, ?_⟩
        · unfold F_H_lots
          rw [if_pos c1, if_pos c2, if_neg (outC h 0 0 (by omega) (by omega) rfl), if_neg (outC h 1 1 (by omega) (by omega) rfl)]
          rfl
        · unfold F_M_lots
          rw [e1, Option.bind_some, e2]
          rfl
    · have e1 : F_M_wrongNumber x1 1 20 = some (-6) := by unfold F_M_wrongNumber; rw [if_pos c1, if_neg c2]
      refine ⟨-6, h_lotsDone, h_lotsNone, h_fields_wishes, h_fields_lefts, rfx rf 6, 0, m_place0, m_isTaking, m_keptIn, m_seed, m_kept, ?_, ?_⟩
      · unfold F_H_lots
        rw [if_pos c1, if_neg c2]
        rfl
      · unfold F_M_lots
        rw [e1]
        rfl
  · have e1 : F_M_wrongNumber x1 1 20 = some (-4) := by unfold F_M_wrongNumber; rw [if_neg c1]
    refine ⟨-4, h_lotsDone, h_lotsNone, h_fields_wishes, h_fields_lefts, rfx rf 4, 0, m_place0, m_isTaking, m_keptIn, m_seed, m_kept, ?_, ?_⟩
    · unfold F_H_lots
      rw [if_neg c1]
      rfl
    · unfold F_M_lots
      rw [e1]
      rfl
