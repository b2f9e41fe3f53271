-- weighs and packs
theorem top_of {sg : Nat → Nat} {k : Nat} (hP : IP sg) : sgN sg k (cN k) < 8 := (IP_N hP k).1 _ cN_lt
theorem P_weighs {hk : Int32} {th : Int32} {dy : Int32} {dn : Int32} {wt : Nat → Int32} {kd : Nat → Int32} {fg : Nat → Int32} {go : Nat → Int32} {hm : Nat → Int32} {wi : Nat → Int32} {lf : Nat → Int32} {kth : Int32} {kdy : Int32} {kdn : Int32} {kwt : Nat → Int32} {kkd : Nat → Int32} {kfg : Nat → Int32} {kgo : Nat → Int32} {khm : Nat → Int32} {kwi : Nat → Int32} {klf : Nat → Int32} {sc : Int32} {sg : Nat → Nat} {sp : Nat → Int32} {sl : Nat → Int32} {sb : Nat → Int32} {sf : Nat → Int32} {sd : Nat → Int32} {lc : Int32} {lt : Nat → Int32} {nc : Int32} {nu : Nat → Int32} {rf : Nat → Int32} {m_place0 : Int32} {m_isTaking : Int32} {m_keptIn : Int32} {im : Nat → Int32} {tu : Nat → Int32} {m_turnOf : Nat → Int32} (hI : Inv th dy dn wt kd fg go hm wi lf hk kth kdy kdn kwt kkd kfg kgo khm kwi klf im sc sg sp sl sb sf sd tu lt lc nu nc) (x1 : Int32) (x2 : Int32) : ∃ (r : Int32) (wt' : Nat → Int32) (sc' : Int32) (sg' : Nat → Nat) (sp' : Nat → Int32) (sl' : Nat → Int32) (sb' : Nat → Int32) (sd' : Nat → Int32) (rf' : Nat → Int32) (m_thrown' : Int32) (m_place0' : Int32) (m_isTaking' : Int32) (m_keptIn' : Int32) (tu' : Nat → Int32) (m_turnOf' : Nat → Int32), F_H_weighs dn wt rf sc sg sb sd sp sl x1 x2 = some (r, wt', rf', sc', sg', sb', sd', sp', sl') ∧ F_M_weighs dy dn m_isTaking m_keptIn m_place0 th sc fg hm kd lf rf m_turnOf tu wi wt x1 x2 = some (r, dy, dn, m_isTaking', m_keptIn', m_place0', th, m_thrown', sc', fg, hm, kd, lf, rf', m_turnOf', tu', wi, wt') ∧ Inv th dy dn wt' kd fg go hm wi lf hk kth kdy kdn kwt kkd kfg kgo khm kwi klf im sc' sg' sp' sl' sb' sf sd' tu' lt lc nu nc := by
  have hI0 := hI
  obtain ⟨⟨n, m, q, hn, hm8, hq, rfl, rfl, rfl, hw, ht, hd, hf⟩, hK, ⟨hP, k, hk8, rfl, hT⟩, hL, hN⟩ := hI
  have hS := hI0.1
  have ref : ∀ c : Int32, F_Sta_weightRefusal x1 x2 = some c → (∀ z, F_M_weighs (nI m) (nI q) m_isTaking m_keptIn m_place0 (nI n) (nI k) fg hm kd lf rf m_turnOf tu wi wt x1 x2 = z → z = F_M_weighs_J28_3 (nI m) (nI q) m_isTaking m_keptIn m_place0 (nI n) (nI k) fg hm kd lf rf m_turnOf tu wi wt x1 x2 c) → (c = -1 ∨ c = -4 ∨ c = -6) → ∃ (r : Int32) (wt' : Nat → Int32) (sc' : Int32) (sg' : Nat → Nat) (sp' : Nat → Int32) (sl' : Nat → Int32) (sb' : Nat → Int32) (sd' : Nat → Int32) (rf' : Nat → Int32) (m_thrown' : Int32) (m_place0' : Int32) (m_isTaking' : Int32) (m_keptIn' : Int32) (tu' : Nat → Int32) (m_turnOf' : Nat → Int32), F_H_weighs (nI q) wt rf (nI k) sg sb sd sp sl x1 x2 = some (r, wt', rf', sc', sg', sb', sd', sp', sl') ∧ F_M_weighs (nI m) (nI q) m_isTaking m_keptIn m_place0 (nI n) (nI k) fg hm kd lf rf m_turnOf tu wi wt x1 x2 = some (r, nI m, nI q, m_isTaking', m_keptIn', m_place0', nI n, m_thrown', sc', fg, hm, kd, lf, rf', m_turnOf', tu', wi, wt') ∧ Inv (nI n) (nI m) (nI q) wt' kd fg go hm wi lf hk kth kdy kdn kwt kkd kfg kgo khm kwi klf im sc' sg' sp' sl' sb' sf sd' tu' lt lc nu nc := by
    intro c h1 h2 h3
    rw [h2 _ rfl]
    unfold F_H_weighs
    rw [h1, Option.bind_some]
    rcases h3 with rfl | rfl | rfl
    · exact ⟨-1, wt, nI k, sg, sp, sl, sb, sd, rfx rf 1, 0, m_place0, m_isTaking, m_keptIn, tu, m_turnOf, rfl, rfl, hI0⟩
    · exact ⟨-4, wt, nI k, sg, sp, sl, sb, sd, rfx rf 4, 0, m_place0, m_isTaking, m_keptIn, tu, m_turnOf, rfl, rfl, hI0⟩
    · exact ⟨-6, wt, nI k, sg, sp, sl, sb, sd, rfx rf 6, 0, m_place0, m_isTaking, m_keptIn, tu, m_turnOf, rfl, rfl, hI0⟩
  rcases inR x1 6 (by omega) with ⟨w, hw6, rfl⟩ | h
  · rcases inR x2 10 (by omega) with ⟨b, hb, rfl⟩ | h | ⟨h, h2⟩
    · have c0 : (0 : Int32) ≤ nI b := by rw [i32_le, nI_toInt (by omega), Int32.toInt_zero]; omega
      have c1 : nI b ≤ 9 := by rw [i32_le, nI_toInt (by omega), show (9 : Int32).toInt = 9 by decide +kernel]; omega
      have ewn : F_M_wrongNumber (nI b) 0 9 = some 0 := by
        unfold F_M_wrongNumber
        rw [if_pos c0, if_pos c1]
      have ewt : F_Sta_weightOf wt (nI w) = some (wt w) := by
        unfold F_Sta_weightOf
        rw [isW_y hw6, Option.bind_some, if_neg (by decide), ck_nI _ hw6 (by omega), nI_clamp (show w < 2 ^ 31 by omega)]
      refine ⟨wt w, upd wt w (nI b), nI (cN k + 1), sgN sg k, upd sp (sgN sg k (cN k)) 0, upd sl (sgN sg k (cN k)) (nI w), upd sb (sgN sg k (cN k)) (wt w), upd sd (sgN sg k (cN k)) (nI q), rf, 0, nI 41, 1, 3, tuN tu k (evS (nI n) (nI m) (nI q) wt kd fg hm wi lf), cpf m_turnOf (evS (nI n) (nI m) (nI q) wt kd fg hm wi lf) 41, ?_, ?_, ?_, hK, ⟨IP_N hP k, cN k + 1, cN_lt, rfl, ?_⟩, hL, hN⟩
      · unfold F_H_weighs F_Sta_weightRefusal F_Sps_noteWeight F_Sta_reweigh
        rw [isW_y hw6, Option.bind_some, if_neg (by decide), if_pos c0, if_pos c1, Option.bind_some, if_pos rfl, ewt, Option.bind_some, C_note hk8 hP, Option.bind_some, Option.bind_some]
        show (ckN (sgN sg k (cN k)) (some (nI (cN k + 1), sgN sg k, upd sb (sgN sg k (cN k)) (wt w), upd sd (sgN sg k (cN k)) (nI q), upd sp (sgN sg k (cN k)) 0, upd sl (sgN sg k (cN k)) (nI w)))).bind _ = _
        rw [ckN_in (top_of hP), Option.bind_some, Option.bind_some, if_neg (by decide), ck_nI _ hw6 (by omega), nI_clamp (show w < 2 ^ 31 by omega), Option.bind_some]
      · unfold F_M_weighs F_M_weighs_J28_3
        rw [M_in0_y 6 5 hw6 (by omega) (by decide +kernel), Option.bind_some, if_neg (by decide), ewn, Option.bind_some, if_pos (by decide), M_keep hk8, Option.bind_some, ck_nI _ hw6 (by omega), ck_nI _ hw6 (by omega), nI_clamp (show w < 2 ^ 31 by omega)]
      · refine ⟨n, m, q, hn, hm8, hq, rfl, rfl, rfl, fun j hj => ?_, ht, hd, hf⟩
        by_cases e : j = w
        · subst e
          exact ⟨b, by omega, updA _ _ _⟩
        · obtain ⟨x, h1, h2⟩ := hw j hj
          exact ⟨x, h1, by rw [updN _ _ e, h2]⟩
      · refine push hk8 hP hS hT (fun r hr => updN _ _ hr) (fun r hr => updN _ _ hr) (fun r hr => updN _ _ hr) (fun r hr => rfl) (fun r hr => updN _ _ hr) ?_ ?_ ?_ ?_ ?_ ?_ ?_ ?_
        · intro _
          rw [updA]
          exact ⟨by rw [i32_le, nI_toInt (by omega), Int32.toInt_zero]; omega, ltC 6 6 hw6 (by omega) rfl⟩
        · rw [updA]
          intro e
          exact absurd e (by decide)
        · exact Or.inl (updA _ _ _)
        · rw [updA]
          exact if_neg (by decide)
        · rw [updA, updA, updA]
          show (if (0 : Int32) = 0 then upd (upd wt w (nI b)) (nI w).toNatClampNeg (wt w) else upd wt w (nI b)) = wt
          rw [if_pos rfl, nI_clamp (show w < 2 ^ 31 by omega), updU, updS]
        · rw [updA]
          exact if_neg (by decide)
        · rw [updA]
          exact if_neg (fun e => absurd e.1 (by decide))
        · rw [updA]
          exact if_neg (fun e => absurd e.1 (by decide))
    · have c0 : ¬ (0 : Int32) ≤ x2 := by
        rw [i32_le]
        rw [i32_lt] at h
        omega
      refine ref (-4) ?_ ?_ (Or.inr (Or.inl rfl))
      · unfold F_Sta_weightRefusal
        rw [isW_y hw6, Option.bind_some, if_neg (by decide), if_neg c0]
      · intro z hz
        rw [← hz]
        unfold F_M_weighs F_M_wrongNumber
        rw [M_in0_y 6 5 hw6 (by omega) (by decide +kernel), Option.bind_some, if_neg (by decide), if_neg c0, Option.bind_some]
    · have c0 : (0 : Int32) ≤ x2 := by
        rw [i32_le]
        rw [i32_lt] at h
        omega
      have c1 : ¬ x2 ≤ 9 := by
        rw [i32_le, show (9 : Int32).toInt = 9 by decide +kernel]
        rw [i32_le, nI_toInt (by omega)] at h2
        omega
      refine ref (-6) ?_ ?_ (Or.inr (Or.inr rfl))
      · unfold F_Sta_weightRefusal
        rw [isW_y hw6, Option.bind_some, if_neg (by decide), if_pos c0, if_neg c1]
      · intro z hz
        rw [← hz]
        unfold F_M_weighs F_M_wrongNumber
        rw [M_in0_y 6 5 hw6 (by omega) (by decide +kernel), Option.bind_some, if_neg (by decide), if_pos c0, if_neg c1, Option.bind_some]
  · refine ref (-1) ?_ ?_ (Or.inl rfl)
    · unfold F_Sta_weightRefusal
      rw [isW_n h, Option.bind_some, if_pos rfl]
    · intro z hz
      rw [← hz]
      unfold F_M_weighs
      rw [M_in0_n 6 5 h (by omega) (by omega) (by decide +kernel), Option.bind_some, if_pos rfl]
theorem xor_n {h n t : Nat} (hn : n ≤ 8) (hh : h < 2 ^ n) (ht : t < n) : ∃ k, k < 2 ^ n ∧ nI h ^^^ nI (2 ^ t) = nI k := by
  obtain ⟨p1, p2⟩ := pow_le hn
  have p3 : 2 ^ t < 2 ^ n := Nat.pow_lt_pow_right (by omega) ht
  have p4 : h ^^^ 2 ^ t < 2 ^ n := Nat.xor_lt_two_pow hh p3
  refine ⟨h ^^^ 2 ^ t, p4, ?_⟩
  apply Int32.toBitVec_inj.mp
  rw [Int32.toBitVec_xor]
  apply BitVec.eq_of_toNat_eq
  rw [BitVec.toNat_xor, nI_toNat (by omega), nI_toNat (by omega), nI_toNat (by omega)]
theorem and1_bt (v : Int32) (t : Nat) : (v >>> ((nI t) &&& 31)) &&& 1 = if bt v t = true then 1 else 0 := by
  unfold bt
  by_cases c : (v >>> ((nI t) &&& 31)) &&& 1 = 1
  · rw [c]; rfl
  · rw [if_neg (fun e => c (of_decide_eq_true e))]
    obtain ⟨k, k1, k2⟩ := and_nI (v >>> ((nI t) &&& 31)) (b := 1) (by omega)
    have k3 : (v >>> ((nI t) &&& 31)) &&& (1 : Int32) = nI k := k2
    rcases (show k = 0 ∨ k = 1 by omega) with rfl | rfl
    · exact k3
    · exact absurd k3 c
theorem P_packs {hk : Int32} {th : Int32} {dy : Int32} {dn : Int32} {wt : Nat → Int32} {kd : Nat → Int32} {fg : Nat → Int32} {go : Nat → Int32} {hm : Nat → Int32} {wi : Nat → Int32} {lf : Nat → Int32} {kth : Int32} {kdy : Int32} {kdn : Int32} {kwt : Nat → Int32} {kkd : Nat → Int32} {kfg : Nat → Int32} {kgo : Nat → Int32} {khm : Nat → Int32} {kwi : Nat → Int32} {klf : Nat → Int32} {sc : Int32} {sg : Nat → Nat} {sp : Nat → Int32} {sl : Nat → Int32} {sb : Nat → Int32} {sf : Nat → Int32} {sd : Nat → Int32} {lc : Int32} {lt : Nat → Int32} {nc : Int32} {nu : Nat → Int32} {rf : Nat → Int32} {m_place0 : Int32} {m_isTaking : Int32} {m_keptIn : Int32} {im : Nat → Int32} {tu : Nat → Int32} {m_turnOf : Nat → Int32} (hI : Inv th dy dn wt kd fg go hm wi lf hk kth kdy kdn kwt kkd kfg kgo khm kwi klf im sc sg sp sl sb sf sd tu lt lc nu nc) (x1 : Int32) (x2 : Int32) : ∃ (r : Int32) (hm' : Nat → Int32) (sc' : Int32) (sg' : Nat → Nat) (sp' : Nat → Int32) (sl' : Nat → Int32) (sb' : Nat → Int32) (sd' : Nat → Int32) (rf' : Nat → Int32) (m_thrown' : Int32) (m_place0' : Int32) (m_isTaking' : Int32) (m_keptIn' : Int32) (tu' : Nat → Int32) (m_turnOf' : Nat → Int32), F_H_packs dy dn th hm rf sc sg sb sd sp sl x1 x2 = some (r, hm', rf', sc', sg', sb', sd', sp', sl') ∧ F_M_packs dy dn m_isTaking m_keptIn m_place0 th sc fg hm kd lf rf m_turnOf tu wi wt x1 x2 = some (r, dy, dn, m_isTaking', m_keptIn', m_place0', th, m_thrown', sc', fg, hm', kd, lf, rf', m_turnOf', tu', wi, wt) ∧ Inv th dy dn wt kd fg go hm' wi lf hk kth kdy kdn kwt kkd kfg kgo khm kwi klf im sc' sg' sp' sl' sb' sf sd' tu' lt lc nu nc := by
  have hI0 := hI
  obtain ⟨⟨n, m, q, hn, hm8, hq, rfl, rfl, rfl, hw, ht, hd, hf⟩, hK, ⟨hP, k, hk8, rfl, hT⟩, hL, hN⟩ := hI
  have hS := hI0.1
  have fin : F_Sta_packRefusal (nI m) (nI n) x1 x2 = some (-1) → F_M_packs (nI m) (nI q) m_isTaking m_keptIn m_place0 (nI n) (nI k) fg hm kd lf rf m_turnOf tu wi wt x1 x2 = F_M_packs_J21_3 (nI m) (nI q) m_isTaking m_keptIn m_place0 (nI n) (nI k) fg hm kd lf rf m_turnOf tu wi wt → ∃ (r : Int32) (hm' : Nat → Int32) (sc' : Int32) (sg' : Nat → Nat) (sp' : Nat → Int32) (sl' : Nat → Int32) (sb' : Nat → Int32) (sd' : Nat → Int32) (rf' : Nat → Int32) (m_thrown' : Int32) (m_place0' : Int32) (m_isTaking' : Int32) (m_keptIn' : Int32) (tu' : Nat → Int32) (m_turnOf' : Nat → Int32), F_H_packs (nI m) (nI q) (nI n) hm rf (nI k) sg sb sd sp sl x1 x2 = some (r, hm', rf', sc', sg', sb', sd', sp', sl') ∧ F_M_packs (nI m) (nI q) m_isTaking m_keptIn m_place0 (nI n) (nI k) fg hm kd lf rf m_turnOf tu wi wt x1 x2 = some (r, nI m, nI q, m_isTaking', m_keptIn', m_place0', nI n, m_thrown', sc', fg, hm', kd, lf, rf', m_turnOf', tu', wi, wt) ∧ Inv (nI n) (nI m) (nI q) wt kd fg go hm' wi lf hk kth kdy kdn kwt kkd kfg kgo khm kwi klf im sc' sg' sp' sl' sb' sf sd' tu' lt lc nu nc := by
    intro h1 h2
    rw [h2]
    unfold F_H_packs
    rw [h1, Option.bind_some]
    exact ⟨-1, hm, nI k, sg, sp, sl, sb, sd, rfx rf 1, 0, m_place0, m_isTaking, m_keptIn, tu, m_turnOf, rfl, rfl, hI0⟩
  rcases inR x1 m (by omega) with ⟨d, hdm, rfl⟩ | h
  · rcases inR x2 n (by omega) with ⟨t, htn, rfl⟩ | h
    · obtain ⟨g, g1, g2⟩ := hd d hdm
      obtain ⟨v, v1, v2⟩ := xor_n hn g1 htn
      have ev : hm d ^^^ ((1 : Int32) <<< ((nI t) &&& 31)) = nI v := by rw [shl_4 (by omega), g2, v2]
      refine ⟨if bt (nI v) t = true then 1 else 0, upd hm d (nI v), nI (cN k + 1), sgN sg k, upd sp (sgN sg k (cN k)) 1, upd sl (sgN sg k (cN k)) (nI d), upd sb (sgN sg k (cN k)) (hm d), upd sd (sgN sg k (cN k)) (nI q), rf, 0, nI 41, 1, 3, tuN tu k (evS (nI n) (nI m) (nI q) wt kd fg hm wi lf), cpf m_turnOf (evS (nI n) (nI m) (nI q) wt kd fg hm wi lf) 41, ?_, ?_, ?_, hK, ⟨IP_N hP k, cN k + 1, cN_lt, rfl, ?_⟩, hL, hN⟩
      · unfold F_H_packs F_Sta_packRefusal F_Sps_noteHamper F_Sta_packOrUnpack
        rw [hasD_y hdm hm8, Option.bind_some, if_neg (by decide), hasT_y htn hn, Option.bind_some, if_neg (by decide), Option.bind_some, if_pos rfl, C_note hk8 hP, Option.bind_some, C_ham hm8 hdm, Option.bind_some]
        show (ckN (sgN sg k (cN k)) (some (nI (cN k + 1), sgN sg k, upd sb (sgN sg k (cN k)) (hm d), upd sd (sgN sg k (cN k)) (nI q), upd sp (sgN sg k (cN k)) 1, upd sl (sgN sg k (cN k)) (nI d)))).bind _ = _
        rw [ckN_in (top_of hP), Option.bind_some, Option.bind_some, if_neg (by decide), ck_nI _ (show d < 8 by omega) (by omega), ck_nI _ (show d < 8 by omega) (by omega), ck_nI _ (show d < 8 by omega) (by omega), nI_clamp (show d < 2 ^ 31 by omega), ev, updA, holds_bt _ (show t < 31 by omega), Option.bind_some]
        cases bt (nI v) t
        · rw [if_pos (by decide)]; rfl
        · rw [if_neg (by decide)]; rfl
      · unfold F_M_packs
        rw [isD_y hdm hm8, Option.bind_some, if_neg (by decide), isT_y htn hn, Option.bind_some, if_neg (by decide), M_keep hk8, Option.bind_some, ck_nI _ (show d < 8 by omega) (by omega), ck_nI _ (show d < 8 by omega) (by omega), ck_nI _ (show d < 8 by omega) (by omega), nI_clamp (show d < 2 ^ 31 by omega)]
        show some (((upd hm d (hm d ^^^ ((1 : Int32) <<< ((nI t) &&& 31)))) d >>> ((nI t) &&& 31)) &&& 1, _, _, _, _, _, _, _, _, _, upd hm d (hm d ^^^ ((1 : Int32) <<< ((nI t) &&& 31))), _) = _
        rw [ev, updA, and1_bt]
      · refine ⟨n, m, q, hn, hm8, hq, rfl, rfl, rfl, hw, ht, fun j hj => ?_, hf⟩
        by_cases e : j = d
        · subst e
          exact ⟨v, v1, updA _ _ _⟩
        · obtain ⟨x, h1, h2⟩ := hd j hj
          exact ⟨x, h1, by rw [updN _ _ e, h2]⟩
      · refine push hk8 hP hS hT (fun r hr => updN _ _ hr) (fun r hr => updN _ _ hr) (fun r hr => updN _ _ hr) (fun r hr => rfl) (fun r hr => updN _ _ hr) ?_ ?_ ?_ ?_ ?_ ?_ ?_ ?_
        · rw [updA]
          intro e
          exact absurd e (by decide)
        · intro _
          rw [updA]
          exact ⟨by rw [i32_le, nI_toInt (by omega), Int32.toInt_zero]; omega, nI_lt hdm (by omega)⟩
        · exact Or.inr (Or.inl (updA _ _ _))
        · rw [updA]
          exact if_neg (by decide)
        · rw [updA]
          exact if_neg (by decide)
        · rw [updA, updA, updA]
          show (if (1 : Int32) = 1 then upd (upd hm d (nI v)) (nI d).toNatClampNeg (hm d) else upd hm d (nI v)) = hm
          rw [if_pos rfl, nI_clamp (show d < 2 ^ 31 by omega), updU, updS]
        · rw [updA]
          exact if_neg (fun e => absurd e.1 (by decide))
        · rw [updA]
          exact if_neg (fun e => absurd e.1 (by decide))
    · refine fin ?_ ?_
      · unfold F_Sta_packRefusal
        rw [hasD_y hdm hm8, Option.bind_some, if_neg (by decide), hasT_n h]
        rfl
      · unfold F_M_packs
        rw [isD_y hdm hm8, Option.bind_some, if_neg (by decide), isT_n h hn]
        rfl
  · refine fin ?_ ?_
    · unfold F_Sta_packRefusal
      rw [hasD_n h]
      rfl
    · unfold F_M_packs
      rw [isD_n h hm8]
      rfl
