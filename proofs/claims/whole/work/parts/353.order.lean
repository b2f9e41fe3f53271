-- order
theorem M_loop {m kk K : Nat} (hm : m ≤ 7) (hkk : kk ≤ 8) (hK : K = if m < kk then m else kk) {lk wi lf W : Nat → Int32} (hl : ∀ d, d < m → lk d = W d ∧ (W d = -9 ∨ ∃ k, k < 6 ∧ W d = nI k)) (lt od : Nat → Int32) : ∃ r : Int32 × Int32 × (Nat → Int32) × (Nat → Int32), wh (fun (s : (Int32) × (Int32) × (Int32) × (Nat → Int32) × (Nat → Int32)) => F_M_order_L106 (nI m) lf wi lk (nI (fac m)) (nI kk) s.1 s.2.1 s.2.2.1 s.2.2.2.1 s.2.2.2.2) 6000 ((0 : Int32), ((-1) : Int32), (0 : Int32), lt, od) = some r ∧ ∃ code, code < fac m ∧ r.1 = nI code ∧ r.2.1 = mst (odE (wkq W lf wi K) m m 0 (fun _ => 0) (0, fun _ => 0)).1 ∧ (odE (wkq W lf wi K) m m 0 (fun _ => 0) (0, fun _ => 0)).2 = lay m m 0 code (fun _ => 0) := by
  have hK8 : K ≤ 8 := by
    rw [hK]
    split <;> omega
  have f1 := fac_pos m
  have f2 := fac_le hm
  have hw8 := wkq_le W lf wi hK8
  have hle : ∀ c, (scn (fun c => gS (wkq W lf wi K) (lay m m 0 c (fun _ => 0))) c (0, fun _ => 0)).1 ≤ 9 := by
    intro c
    induction c with
    | zero => exact Nat.zero_le _
    | succ c ih => exact gS_le hw8 _ ih
  have hE := scn_odE (wk := wkq W lf wi K) (show m ≤ 8 by omega) m 0 (fun _ => 0) (0, fun _ => 0) (Nat.le_refl m) (by omega) (rnk_0 m (by omega))
  rw [← hE]
  refine Exists.elim (wh_ex (step := fun (s : (Int32) × (Int32) × (Int32) × (Nat → Int32) × (Nat → Int32)) => F_M_order_L106 (nI m) lf wi lk (nI (fac m)) (nI kk) s.1 s.2.1 s.2.2.1 s.2.2.2.1 s.2.2.2.2)
    (fun c s => s.2.2.1 = nI c ∧ s.2.1 = mst (scn (fun c => gS (wkq W lf wi K) (lay m m 0 c (fun _ => 0))) c (0, fun _ => 0)).1 ∧ ∃ code, code < fac m ∧ s.1 = nI code ∧ (1 ≤ c → (scn (fun c => gS (wkq W lf wi K) (lay m m 0 c (fun _ => 0))) c (0, fun _ => 0)).2 = lay m m 0 code (fun _ => 0)))
    (fun r => r.2.1 = mst (scn (fun c => gS (wkq W lf wi K) (lay m m 0 c (fun _ => 0))) (fac m) (0, fun _ => 0)).1 ∧ ∃ code, code < fac m ∧ r.1 = nI code ∧ (scn (fun c => gS (wkq W lf wi K) (lay m m 0 c (fun _ => 0))) (fac m) (0, fun _ => 0)).2 = lay m m 0 code (fun _ => 0))
    (fac m) (fun c hc s hs => ?_) (fun s hs => ?_) (fac m) 6000 0 ((0 : Int32), ((-1) : Int32), (0 : Int32), lt, od) (by omega) (by omega) ⟨rfl, rfl, 0, by omega, rfl, fun h => absurd h (by omega)⟩) (fun r hr => ?_)
  · obtain ⟨s1, s2, s3, s4, s5⟩ := s
    obtain ⟨g1, g2, code, g3, g4, g5⟩ := hs
    have g1' : s3 = nI c := g1
    have g2' : s2 = mst (scn (fun c => gS (wkq W lf wi K) (lay m m 0 c (fun _ => 0))) c (0, fun _ => 0)).1 := g2
    have g4' : s1 = nI code := g4
    subst g1' g2' g4'
    show ∃ s', F_M_order_L106 (nI m) lf wi lk (nI (fac m)) (nI kk) (nI code) (mst (scn (fun c => gS (wkq W lf wi K) (lay m m 0 c (fun _ => 0))) c (0, fun _ => 0)).1) (nI c) s4 s5 = some (Sum.inl s') ∧ _
    have h9 := hle c
    obtain ⟨o', o1, o2⟩ := M_layr hm m 0 c (fun _ => 0) s5 (399 - m) (Nat.le_refl m) (by omega) (rnk_0 m (by omega)) hc (fun i hi => absurd hi (by omega))
    rw [show m + 1 + (399 - m) = 400 by omega, Nat.sub_self] at o1
    have hq := lay_lt (show m ≤ 8 by omega) m 0 c (fun _ => 0) (Nat.le_refl m) (by omega) (rnk_0 m (by omega)) hc (fun i hi => absurd hi (by omega))
    have hdn := M_done (lk := lk) (od := o') (wi := wi) (lf := lf) (lt := s4) (W := W) (q := lay m m 0 c (fun _ => 0)) (show m ≤ 8 by omega) hkk hK (fun i hi => ⟨o2 i hi, hq i hi⟩) hl
    have eS : scn (fun c => gS (wkq W lf wi K) (lay m m 0 c (fun _ => 0))) (c + 1) (0, fun _ => 0) = gS (wkq W lf wi K) (lay m m 0 c (fun _ => 0)) (scn (fun c => gS (wkq W lf wi K) (lay m m 0 c (fun _ => 0))) c (0, fun _ => 0)) := rfl
    have hpos : 1 ≤ c → 1 ≤ (scn (fun c => gS (wkq W lf wi K) (lay m m 0 c (fun _ => 0))) c (0, fun _ => 0)).1 := by
      intro h
      obtain ⟨c', rfl⟩ : ∃ c', c = c' + 1 := ⟨c - 1, by omega⟩
      exact gS_pos _ _ _
    have hz : c = 0 → (scn (fun c => gS (wkq W lf wi K) (lay m m 0 c (fun _ => 0))) c (0, fun _ => 0)).1 = 0 := by
      intro h
      rw [h]
      rfl
    rw [eS]
    generalize scn (fun c => gS (wkq W lf wi K) (lay m m 0 c (fun _ => 0))) c (0, fun _ => 0) = S at *
    unfold F_M_order_L106 F_M_order_J144_14 F_M_layOrder
    rw [if_neg (nI_leN hc (by omega))]
    show ∃ s', ((wh (fun (s : (Int32) × (Int32) × (Int32) × (Nat → Int32)) => F_M_layOrder_L8 (nI m) s.1 s.2.1 s.2.2.1 s.2.2.2) 400 (nI c, nI 0, nI 0, s5)).bind (fun e_1 => some e_1)).bind _ = some (Sum.inl s') ∧ _
    rw [o1, Option.bind_some, Option.bind_some, hdn, Option.bind_some]
    have hwq := hw8 (lay m m 0 c (fun _ => 0))
    unfold gS
    by_cases h : S.1 ≤ wkq W lf wi K (lay m m 0 c (fun _ => 0))
    · have hn : ¬ nI (wkq W lf wi K (lay m m 0 c (fun _ => 0))) ≤ mst S.1 := fun e => by
        have := (mst_le (show S.1 < 2 ^ 30 by omega) (by omega)).mp e
        omega
      rw [if_neg hn, if_neg hn, if_pos h]
      exact ⟨_, rfl, nI_1 c, (mst_s _).symm, c, hc, rfl, fun _ => rfl⟩
    · have hn : nI (wkq W lf wi K (lay m m 0 c (fun _ => 0))) ≤ mst S.1 := (mst_le (show S.1 < 2 ^ 30 by omega) (by omega)).mpr (by omega)
      rw [if_pos hn, if_pos hn, if_neg h]
      refine ⟨_, rfl, nI_1 c, rfl, code, g3, rfl, fun _ => ?_⟩
      by_cases c0 : c = 0
      · have := hz c0
        omega
      · exact g5 (by omega)
  · obtain ⟨s1, s2, s3, s4, s5⟩ := s
    obtain ⟨g1, g2, code, g3, g4, g5⟩ := hs
    have g1' : s3 = nI (fac m) := g1
    subst g1'
    show ∃ r, F_M_order_L106 (nI m) lf wi lk (nI (fac m)) (nI kk) s1 s2 (nI (fac m)) s4 s5 = some (Sum.inr r) ∧ _
    unfold F_M_order_L106
    rw [if_pos (nI_le (Nat.le_refl _) (by omega))]
    exact ⟨_, rfl, g2, code, g3, g4, g5 f1⟩
  · obtain ⟨e1, e2, code, e3, e4, e5⟩ := hr
    exact ⟨r, e1, code, e3, e4, e2, e5⟩
theorem P_order {hk : Int32} {th : Int32} {dy : Int32} {dn : Int32} {wt : Nat → Int32} {kd : Nat → Int32} {fg : Nat → Int32} {go : Nat → Int32} {hm : Nat → Int32} {wi : Nat → Int32} {lf : Nat → Int32} {kth : Int32} {kdy : Int32} {kdn : Int32} {kwt : Nat → Int32} {kkd : Nat → Int32} {kfg : Nat → Int32} {kgo : Nat → Int32} {khm : Nat → Int32} {kwi : Nat → Int32} {klf : Nat → Int32} {sc : Int32} {sg : Nat → Nat} {sp : Nat → Int32} {sl : Nat → Int32} {sb : Nat → Int32} {sf : Nat → Int32} {sd : Nat → Int32} {lc : Int32} {lt : Nat → Int32} {nc : Int32} {nu : Nat → Int32} {h_days : Int32} {h_counted : Int32} {h_atMost : Int32} {h_most : Int32} {h_fields_wishes : Nat → Int32} {h_fields_lefts : Nat → Int32} {h_weathers : Nat → Int32} {h_path : Nat → Int32} {h_best : Nat → Int32} {rf : Nat → Int32} {im : Nat → Int32} {tu : Nat → Int32} {m_order0 : Nat → Int32} {m_likely0 : Nat → Int32} {m_leftThen : Nat → Int32} (hI : Inv th dy dn wt kd fg go hm wi lf hk kth kdy kdn kwt kkd kfg kgo khm kwi klf im sc sg sp sl sb sf sd tu lt lc nu nc) (x1 : Int32) (x2 : Int32) : ∃ (r : Int32) (h_days' : Int32) (h_counted' : Int32) (h_atMost' : Int32) (h_most' : Int32) (h_fields_wishes' : Nat → Int32) (h_fields_lefts' : Nat → Int32) (h_weathers' : Nat → Int32) (h_path' : Nat → Int32) (h_best' : Nat → Int32) (rf' : Nat → Int32) (m_thrown' : Int32) (m_order0' : Nat → Int32) (m_likely0' : Nat → Int32) (m_leftThen' : Nat → Int32), F_H_order h_atMost h_counted h_days h_most h_best h_fields_lefts h_fields_wishes h_path h_weathers dy lf wi go hm wt rf x1 x2 = some (r, h_atMost', h_counted', h_days', h_most', h_best', h_fields_lefts', h_fields_wishes', h_path', h_weathers', rf') ∧ F_M_order dy th fg hm kd lf m_leftThen m_likely0 m_order0 rf wi wt x1 x2 = some (r, m_thrown', m_leftThen', m_likely0', m_order0', rf') := by
  obtain ⟨⟨n, m, q, hn, hm8, hq, rfl, rfl, rfl, hw, ht, hd, hf⟩, -⟩ := hI
  have ref : ∀ (c : Int32) (rf2 : Nat → Int32), F_H_order h_atMost h_counted h_days h_most h_best h_fields_lefts h_fields_wishes h_path h_weathers (nI m) lf wi go hm wt rf x1 x2 = some (c, h_atMost, h_counted, h_days, h_most, h_best, h_fields_lefts, h_fields_wishes, h_path, h_weathers, rf2) → F_M_order (nI m) (nI n) fg hm kd lf m_leftThen m_likely0 m_order0 rf wi wt x1 x2 = some (c, 0, m_leftThen, m_likely0, m_order0, rf2) → ∃ (r : Int32) (h_days' : Int32) (h_counted' : Int32) (h_atMost' : Int32) (h_most' : Int32) (h_fields_wishes' : Nat → Int32) (h_fields_lefts' : Nat → Int32) (h_weathers' : Nat → Int32) (h_path' : Nat → Int32) (h_best' : Nat → Int32) (rf' : Nat → Int32) (m_thrown' : Int32) (m_order0' : Nat → Int32) (m_likely0' : Nat → Int32) (m_leftThen' : Nat → Int32), F_H_order h_atMost h_counted h_days h_most h_best h_fields_lefts h_fields_wishes h_path h_weathers (nI m) lf wi go hm wt rf x1 x2 = some (r, h_atMost', h_counted', h_days', h_most', h_best', h_fields_lefts', h_fields_wishes', h_path', h_weathers', rf') ∧ F_M_order (nI m) (nI n) fg hm kd lf m_leftThen m_likely0 m_order0 rf wi wt x1 x2 = some (r, m_thrown', m_leftThen', m_likely0', m_order0', rf') := by
    intro c rf2 h1 h2
    exact ⟨_, _, _, _, _, _, _, _, _, _, _, _, _, _, _, h1, h2⟩
  have w4 : F_M_order_J46_2 (nI m) (nI n) fg hm kd lf m_leftThen m_likely0 m_order0 rf wi wt x1 x2 (-4) = some (-4, 0, m_leftThen, m_likely0, m_order0, rfx rf 4) := rfl
  have w6 : F_M_order_J46_2 (nI m) (nI n) fg hm kd lf m_leftThen m_likely0 m_order0 rf wi wt x1 x2 (-6) = some (-6, 0, m_leftThen, m_likely0, m_order0, rfx rf 6) := rfl
  have w3 : F_M_order_J46_2 (nI m) (nI n) fg hm kd lf m_leftThen m_likely0 m_order0 rf wi wt x1 x2 (-3) = some (-3, 0, m_leftThen, m_likely0, m_order0, rfx rf 3) := rfl
  by_cases c1 : x1 < 1
  · refine ref (-4) (rfx rf 4) ?_ ?_
    · unfold F_H_order
      rw [if_pos c1]
      rfl
    · unfold F_M_order F_M_order_J15_21
      rw [if_pos c1, w4]
  · by_cases c2 : (-1 : Int32) ≤ x2
    · by_cases c3 : x1 ≤ 8
      · by_cases c4 : nI m ≤ 7
        · have hm7 : m ≤ 7 := by
            rw [i32_le, nI_toInt (by omega), show (7 : Int32).toInt = 7 by decide +kernel] at c4
            omega
          obtain ⟨kk, k1, k2, rfl⟩ : ∃ kk, 1 ≤ kk ∧ kk ≤ 8 ∧ x1 = nI kk := by
            rcases inR x1 9 (by omega) with ⟨k, hk, rfl⟩ | h | ⟨-, h⟩
            · rw [i32_lt, nI_toInt (by omega), show (1 : Int32).toInt = 1 by decide +kernel] at c1
              exact ⟨k, by omega, by omega, rfl⟩
            · rw [i32_lt, Int32.toInt_zero] at h
              rw [i32_lt, show (1 : Int32).toInt = 1 by decide +kernel] at c1
              omega
            · rw [i32_le, nI_toInt (by omega)] at h
              rw [i32_le, show (8 : Int32).toInt = 8 by decide +kernel] at c3
              omega
          obtain ⟨K, hK⟩ : ∃ K, K = if m < kk then m else kk := ⟨_, rfl⟩
          have hKm : K ≤ m := by
            rw [hK]
            split <;> omega
          have eK : (if nI m < nI kk then nI m else nI kk) = nI K := by
            rw [hK]
            by_cases c : m < kk
            · rw [if_pos c, if_pos (nI_lt c (by omega))]
            · rw [if_neg c, if_neg (show ¬ nI m < nI kk by rw [i32_lt, nI_toInt (by omega), nI_toInt (by omega)]; omega)]
          have hy : ∀ i, i < 4 → lf i = nI ((fun i => (lf i).toNatClampNeg) i) ∧ (fun i => (lf i).toNatClampNeg) i ≤ 9 := by
            intro i hi
            obtain ⟨a, b, b1, b2, b3, b4⟩ := hf i hi
            have e : (lf i).toNatClampNeg = b := by rw [b4, nI_clamp (by omega)]
            show lf i = nI ((lf i).toNatClampNeg) ∧ (lf i).toNatClampNeg ≤ 9
            rw [e]
            exact ⟨b4, b2⟩
          generalize (fun i => (lf i).toNatClampNeg) = y at hy
          obtain ⟨N, hN⟩ : ∃ N : Nat, N = 16 := ⟨16, rfl⟩
          obtain ⟨T, hT, eT, hmin⟩ := mnC_cut (wi := wi) (wthr go wt hm m) hy hm8 N
          have hcut : ∀ q : Nat → Nat, (∀ i, i < K → q i < m) → (∀ i j, i < K → j < K → q i = q j → i = j) → wkq (wthr go wt hm m) lf wi K q ≤ T := by
            intro q a1 a2
            refine hmin _ ?_ (fun c => wkq_cut hy a1 a2 c)
            exact Nat.le_trans (gwc_le _ _ _ _ K) hKm
          obtain ⟨o, o1, o2, o3, o4, o5⟩ := C_ext (m := m) (K := K) (T := T) hm8 hKm h_fields_lefts h_fields_wishes h_weathers (wthr go wt hm m) lf wi (Nat.le_trans hT hm8) hcut (9 - K) K 0 (fun _ => 0) (0, fun _ => 0) h_best h_path (Nat.le_refl K) (by omega) (by rw [Nat.sub_self]; exact rnk_0 m hm8) (by rw [Nat.sub_self]; exact ⟨fun i hi => absurd hi (by omega), fun i j hi => absurd hi (by omega)⟩) (by omega) (fun i hi => absurd hi (by omega)) (fun h => absurd h (by omega))
          rw [show 9 - K + K + 1 = 10 by omega, Nat.sub_self] at o1
          rw [Nat.sub_self, show m - 0 = m from rfl] at o2 o3
          have hl : ∀ d, d < m → cpf m_likely0 (wthr go wt hm m) m d = wthr go wt hm m d ∧ (wthr go wt hm m d = -9 ∨ ∃ k, k < 6 ∧ wthr go wt hm m d = nI k) := fun d hd => ⟨cpf_at hd, wthr_or go wt hm m d⟩
          obtain ⟨r, r1, code, r2, r3, r4, r5⟩ := M_loop hm7 k2 hK (lf := lf) (wi := wi) hl m_leftThen m_order0
          obtain ⟨o', l1, l2⟩ := M_layr hm7 m 0 code (fun _ => 0) r.2.2.2 (399 - m) (Nat.le_refl m) (by omega) (rnk_0 m hm8) r2 (fun i hi => absurd hi (by omega))
          rw [show m + 1 + (399 - m) = 400 by omega, Nat.sub_self] at l1
          have hpos : 1 ≤ (odE (wkq (wthr go wt hm m) lf wi K) m m 0 (fun _ => 0) (0, fun _ => 0)).1 := by
            rw [← scn_odE (wk := wkq (wthr go wt hm m) lf wi K) hm8 m 0 (fun _ => 0) (0, fun _ => 0) (Nat.le_refl m) (by omega) (rnk_0 m hm8)]
            have f1 := fac_pos m
            obtain ⟨c', hc'⟩ : ∃ c', fac m = c' + 1 := ⟨fac m - 1, by omega⟩
            rw [hc']
            exact gS_pos _ _ _
          have hbest := o3 hpos
          rw [r5] at hbest
          have eFind : F_Har_findOrder h_best h_fields_lefts h_fields_wishes h_path h_weathers (nI m) lf wi go hm wt (nI kk) = some (nI T, nI K, nI m, o.1, o.2.1, o.2.2.1, cpf h_fields_wishes wi 4, o.2.2.2, cpf h_weathers (wthr go wt hm m) 8) := by
            unfold F_Har_findOrder
            rw [C_begin hm8, Option.bind_some]
            show (F_Har_leastCut (nI m) (cpf h_fields_lefts lf 4) (cpf h_fields_wishes wi 4) (cpf h_weathers (wthr go wt hm m) 8)).bind _ = _
            rw [C_cut hm8 hN, eT, Option.bind_some]
            show (F_Har_extendPath 10 (nI T) (if nI m < nI kk then nI m else nI kk) (nI m) (-1) h_best (cpf h_fields_lefts lf 4) (cpf h_fields_wishes wi 4) h_path (cpf h_weathers (wthr go wt hm m) 8) 0 0 0).bind (fun q_3 => some (nI T, (if nI m < nI kk then nI m else nI kk), nI m, q_3.1, q_3.2.1, q_3.2.2.1, cpf h_fields_wishes wi 4, q_3.2.2.2, cpf h_weathers (wthr go wt hm m) 8)) = _
            rw [eK]
            have o1' : F_Har_extendPath 10 (nI T) (nI K) (nI m) (-1) h_best (cpf h_fields_lefts lf 4) (cpf h_fields_wishes wi 4) h_path (cpf h_weathers (wthr go wt hm m) 8) 0 0 0 = some o := o1
            rw [o1', Option.bind_some]
          have eLik : wh (fun (s : (Int32) × (Nat → Int32)) => F_M_order_L60 (nI m) (nI n) fg hm kd wt s.1 s.2) 6000 ((0 : Int32), m_likely0) = some (cpf m_likely0 (wthr go wt hm m) m) := by
            have e : wh (fun (s : (Int32) × (Nat → Int32)) => F_M_order_L60 (nI m) (nI n) fg hm kd wt s.1 s.2) 6000 ((0 : Int32), cpf m_likely0 (wthr go wt hm m) 0) = some (cpf m_likely0 (wthr go wt hm m) m) := by
              refine wh_for (fun i => (nI i, cpf m_likely0 (wthr go wt hm m) i)) m (cpf m_likely0 (wthr go wt hm m) m) (fun i hi => ?_) ?_ 6000 (by omega)
              · show F_M_order_L60 (nI m) (nI n) fg hm kd wt (nI i) (cpf m_likely0 (wthr go wt hm m) i) = some (Sum.inl (nI (i + 1), cpf m_likely0 (wthr go wt hm m) (i + 1)))
                unfold F_M_order_L60
                rw [if_neg (nI_leN hi (by omega)), M_on hn hm8 ht hd hi, Option.bind_some, ck_nI _ (show i < 8 by omega) (by omega), nI_clamp (show i < 2 ^ 31 by omega), nI_1, ← cpf_s, wthr_y hi]
              · show F_M_order_L60 (nI m) (nI n) fg hm kd wt (nI m) _ = _
                unfold F_M_order_L60
                rw [if_pos (nI_le (Nat.le_refl m) (by omega))]
            rw [cpf_0] at e
            exact e
          have eM : ∀ z, F_M_order (nI m) (nI n) fg hm kd lf m_leftThen m_likely0 m_order0 rf wi wt (nI kk) x2 = z → z = (if (0 : Int32) ≤ x2 then (if nI m ≤ x2 then (some ((-9), 0, r.2.2.1, cpf m_likely0 (wthr go wt hm m) m, o', rf)) else (ck x2 8 (some ((o' (Int32.toNatClampNeg x2)), 0, r.2.2.1, cpf m_likely0 (wthr go wt hm m) m, o', rf)))) else (some (r.2.1, 0, r.2.2.1, cpf m_likely0 (wthr go wt hm m) m, o', rf))) := by
            intro z hz
            rw [← hz]
            unfold F_M_order F_M_order_J46_2
            rw [if_neg c1, if_pos c2, if_pos c3, if_pos c4, if_pos (show (0 : Int32) ≤ 0 by decide), eLik, Option.bind_some, M_fac hm8, Option.bind_some, r1, Option.bind_some, r3]
            unfold F_M_layOrder
            show ((wh (fun (s : (Int32) × (Int32) × (Int32) × (Nat → Int32)) => F_M_layOrder_L8 (nI m) s.1 s.2.1 s.2.2.1 s.2.2.2) 400 (nI code, nI 0, nI 0, r.2.2.2)).bind (fun e_1 => some e_1)).bind _ = _
            rw [l1, Option.bind_some, Option.bind_some]
          have eH : ∀ z, F_H_order h_atMost h_counted h_days h_most h_best h_fields_lefts h_fields_wishes h_path h_weathers (nI m) lf wi go hm wt rf (nI kk) x2 = z → z = (if x2 = (-1) then (some (o.1, nI T, nI K, nI m, o.1, o.2.1, o.2.2.1, cpf h_fields_wishes wi 4, o.2.2.2, cpf h_weathers (wthr go wt hm m) 8, rf)) else ((F_Har_orderedDay (nI m) o.2.1 x2).bind (fun q_9 => (some (q_9, nI T, nI K, nI m, o.1, o.2.1, o.2.2.1, cpf h_fields_wishes wi 4, o.2.2.2, cpf h_weathers (wthr go wt hm m) 8, rf))))) := by
            intro z hz
            rw [← hz]
            unfold F_H_order
            rw [if_neg c1, if_pos c2, if_pos c3, if_pos c4, eFind, Option.bind_some]
          rw [eH _ rfl, eM _ rfl]
          rcases inR x2 m (by omega) with ⟨i, him, rfl⟩ | h | ⟨h1, h2⟩
          · have hne : ¬ nI i = -1 := by
              intro e
              have := congrArg Int32.toInt e
              rw [nI_toInt (by omega), show (-1 : Int32).toInt = -1 by decide +kernel] at this
              omega
            have h0 : ¬ nI i < 0 := nI_ge0 (by omega)
            unfold F_Har_orderedDay
            rw [if_neg hne, if_neg h0, if_neg (nI_leN him (by omega)), if_neg (nleC 8 8 (show i < 8 by omega) (by omega) rfl), ck_nI _ (show i < 8 by omega) (by omega), nI_clamp (show i < 2 ^ 31 by omega), Option.bind_some, if_pos (show (0 : Int32) ≤ nI i by rw [i32_le, nI_toInt (by omega), Int32.toInt_zero]; omega), if_neg (nI_leN him (by omega)), ck_nI _ (show i < 8 by omega) (by omega), hbest i him, l2 i him]
            exact ⟨_, _, _, _, _, _, _, _, _, _, _, _, _, _, _, rfl, rfl⟩
          · have he : x2 = -1 := by
              apply Int32.toInt_inj.mp
              rw [i32_lt, Int32.toInt_zero] at h
              rw [i32_le, show (-1 : Int32).toInt = -1 by decide +kernel] at c2
              rw [show (-1 : Int32).toInt = -1 by decide +kernel]
              omega
            rw [if_pos he, he, if_neg (by decide), o2, r4]
            exact ⟨_, _, _, _, _, _, _, _, _, _, _, _, _, _, _, rfl, rfl⟩
          · have hne : ¬ x2 = -1 := by
              intro e
              rw [e] at h1
              exact h1 (by decide)
            have h0 : (0 : Int32) ≤ x2 := by
              rw [i32_le, Int32.toInt_zero]
              rw [i32_lt, Int32.toInt_zero] at h1
              omega
            unfold F_Har_orderedDay
            rw [if_neg hne, if_neg h1, if_pos h2, Option.bind_some, if_pos h0, if_pos h2]
            exact ⟨_, _, _, _, _, _, _, _, _, _, _, _, _, _, _, rfl, rfl⟩
        · refine ref (-3) (rfx rf 3) ?_ ?_
          · unfold F_H_order
            rw [if_neg c1, if_pos c2, if_pos c3, if_neg c4]
            rfl
          · unfold F_M_order
            rw [if_neg c1, if_pos c2, if_pos c3, if_neg c4, w3]
      · refine ref (-6) (rfx rf 6) ?_ ?_
        · unfold F_H_order
          rw [if_neg c1, if_pos c2, if_neg c3]
          rfl
        · unfold F_M_order
          rw [if_neg c1, if_pos c2, if_neg c3, w6]
    · refine ref (-4) (rfx rf 4) ?_ ?_
      · unfold F_H_order
        rw [if_neg c1, if_neg c2]
        rfl
      · unfold F_M_order F_M_order_J15_21
        rw [if_neg c1, if_neg c2, w4]
