-- halls: one statement comes, the rest
theorem hs_w {N p j : Nat} {L : Nat → Nat} {lt lo td : Nat → Int32} (hN : N ≤ 96) (hL : ∀ p, p < N → lt p = nI (L p) ∧ L p ≤ 255) (hg : gdS N L p = true) (hc : L p = 119) (hj : j ≤ 40) (hlo : lo j = nI (L p)) (htd : tdS L td j p) (tlf twi tfg tgo thm tkd twt : Nat → Int32) {th dy dn : Int32} {wt kd fg go hm wi lf : Nat → Int32} (hS : IS th dy dn wt kd fg go hm wi lf) : hStep N lt lo td p j tlf twi tfg tgo thm tkd twt th dy dn wt kd fg go hm wi lf := by
  obtain ⟨n, m, q, hn, hm8, hq, rfl, rfl, rfl, hw, ht, hd, hf⟩ := hS
  obtain ⟨g1, g2, g3, g4, g5⟩ := gdS_y hg
  obtain ⟨k1, k2, k3, k4, k5⟩ := C_nums (p := p) hN (by omega) lt
  have hdg : dgb (L p) = 2 := by rw [hc]; rfl
  rw [hdg] at g3
  have e1 : cnum N lt (p + 1) 1 = nI (numN L (p + 1) 1) := cnum_num hL (by omega) (zd_dig (k := 0) (by omega))
  have e2 : cnum N lt (p + 2) 1 = nI (numN L (p + 2) 1) := cnum_num hL (by omega) (zd_dig (p := p + 1) (k := 1) (by omega))
  have b1 : numN L (p + 1) 1 < 10 ^ 1 := num_le (N := N) 1 (zd_dig (k := 0) (by omega))
  have b2 : numN L (p + 2) 1 < 10 ^ 1 := num_le (N := N) 1 (zd_dig (p := p + 1) (k := 1) (by omega))
  obtain ⟨t1, t2, -⟩ := htd
  rw [if_neg (show ¬ L p = 100 by omega)] at t1
  have t2 := t2 (Or.inr (Or.inl hc))
  rw [if_neg (show ¬ L p = 102 by omega)] at t2
  have el : la N lt p = nI 119 := by rw [la, if_pos g1, (hL p g1).1, hc]
  rw [hc] at hlo
  generalize numN L (p + 1) 1 = a at *
  generalize numN L (p + 2) 1 = b at *
  have b1 : a ≤ 9 := by omega
  have b2 : b ≤ 9 := by omega
  have hb0 : (0 : Int32) ≤ nI b := by rw [i32_le, nI_toInt (by omega), Int32.toInt_zero]; omega
  have hb9 : nI b ≤ 9 := by rw [i32_le, nI_toInt (by omega), show (9 : Int32).toInt = 9 by decide +kernel]; omega
  have eR : F_Let_refusalAt (nI N) lt (nI m) (nI n) (nI p) = F_Sta_weightRefusal (nI a) (nI b) := by
    unfold F_Let_refusalAt
    rw [k1, Option.bind_some, k2, Option.bind_some, C_at hN (by omega), Option.bind_some, el, if_neg (show ¬ nI 119 = 100 by decide), if_neg (show ¬ nI 119 = 102 by decide), if_neg (show ¬ nI 119 = 112 by decide), if_neg (show ¬ nI 119 = 115 by decide), if_neg (show ¬ nI 119 = 116 by decide), if_pos (show nI 119 = 119 from rfl), e1, e2]
    cases F_Sta_weightRefusal (nI a) (nI b) <;> rfl
  have eC : ∀ z, F_M_comesTold (nI m) (nI q) (nI n) fg hm kd lf lo td wi wt (nI j) = z → z = (if (6 : Int32) ≤ nI a then some (0, nI m, nI q, nI n, fg, hm, kd, lf, wi, wt) else ck (nI a) 6 (some (1, nI m, nI q, nI n, fg, hm, kd, lf, wi, upd wt (nI a).toNatClampNeg (nI b)))) := by
    intro z hz
    rw [← hz]
    unfold F_M_comesTold F_M_comesTold_J178_42 ckz
    rw [mul3 (by omega), nI_1, show nI (3 * j) + 2 = nI (3 * j + 2) from nI_addS (b := 2) (by omega), ck_nI _ (show 3 * j < 147 by omega) (by omega), ck_nI _ (show 3 * j + 1 < 147 by omega) (by omega), ck_nI _ (show 3 * j + 2 < 147 by omega) (by omega), ck_nI _ (show j < 49 by omega) (by omega), nI_clamp (show j < 2 ^ 31 by omega), hlo, if_neg (show ¬ nI 119 = 100 by decide), if_neg (show ¬ nI 119 = 102 by decide), if_neg (show ¬ nI 119 = 115 by decide), if_neg (show ¬ nI 119 = 116 by decide), if_pos (show nI 119 = 119 from rfl), nI_clamp (show 3 * j < 2 ^ 31 by omega), nI_clamp (show 3 * j + 1 < 2 ^ 31 by omega), t1, t2]
    rfl
  by_cases c1 : a < 6
  · refine ⟨0, ?_, Or.inr ⟨rfl, nI n, nI m, nI q, upd wt a (nI b), kd, fg, go, hm, wi, lf, ?_, ?_, ?_, ?_⟩⟩
    · rw [eR]
      unfold F_Sta_weightRefusal
      rw [isW_y c1, Option.bind_some, if_neg (by decide), if_pos hb0, if_pos hb9]
    · unfold F_Let_bring
      rw [k1, Option.bind_some, k2, Option.bind_some, C_at hN (by omega), Option.bind_some, el, if_neg (show ¬ nI 119 = 100 by decide), if_neg (show ¬ nI 119 = 102 by decide), if_neg (show ¬ nI 119 = 112 by decide), if_neg (show ¬ nI 119 = 115 by decide), if_neg (show ¬ nI 119 = 116 by decide), if_pos (show nI 119 = 119 from rfl), e1, e2]
      unfold F_Sta_reweigh
      rw [isW_y c1, Option.bind_some, if_neg (by decide), ck_nI _ c1 (by omega), nI_clamp (show a < 2 ^ 31 by omega), Option.bind_some, upd_cn _ _ _ c1]
    · rw [eC _ rfl, if_neg (nleC 6 6 c1 (by omega) rfl), ck_nI _ c1 (by omega), nI_clamp (show a < 2 ^ 31 by omega)]
    · refine ⟨n, m, q, hn, hm8, hq, rfl, rfl, rfl, fun i hi => ?_, ht, hd, hf⟩
      by_cases e : i = a
      · subst e
        exact ⟨b, b2, updA _ _ _⟩
      · obtain ⟨x, x1, x2⟩ := hw i hi
        exact ⟨x, x1, by rw [updN _ _ e, x2]⟩
    · exact ⟨upd_out _ _ c1, fun i _ => rfl, fun i _ => rfl, fun i _ => rfl, fun i _ => rfl, fun i _ => rfl, fun i _ => rfl⟩
  · refine ⟨-1, ?_, Or.inl ⟨by decide, ?_⟩⟩
    · rw [eR]
      unfold F_Sta_weightRefusal
      rw [isW_n (Or.inr ⟨nI_ge0 (by omega), nI_le (by omega) (by omega)⟩), Option.bind_some, if_pos rfl]
    · rw [eC _ rfl, if_pos (show (6 : Int32) ≤ nI a by rw [i32_le, nI_toInt (by omega), show (6 : Int32).toInt = 6 by decide +kernel]; omega)]
theorem hs_d {N p j : Nat} {L : Nat → Nat} {lt lo td : Nat → Int32} (hN : N ≤ 96) (hL : ∀ p, p < N → lt p = nI (L p) ∧ L p ≤ 255) (hg : gdS N L p = true) (hc : L p = 100) (hj : j ≤ 40) (hlo : lo j = nI (L p)) (htd : tdS L td j p) (tlf twi tfg tgo thm tkd twt : Nat → Int32) {th dy dn : Int32} {wt kd fg go hm wi lf : Nat → Int32} (hS : IS th dy dn wt kd fg go hm wi lf) : hStep N lt lo td p j tlf twi tfg tgo thm tkd twt th dy dn wt kd fg go hm wi lf := by
  obtain ⟨n, m, q, hn, hm8, hq, rfl, rfl, rfl, hw, ht, hd, hf⟩ := hS
  obtain ⟨g1, g2, g3, g4, g5⟩ := gdS_y hg
  obtain ⟨k1, k2, k3, k4, k5⟩ := C_nums (p := p) hN (by omega) lt
  obtain ⟨p1, p2⟩ := pow_le hn
  have hdg : dgb (L p) = 3 := by rw [hc]; rfl
  rw [hdg] at g3
  have e1 : cnum N lt (p + 1) 3 = nI (numN L (p + 1) 3) := cnum_num hL (by omega) (zd_dig (k := 0) (by omega))
  have b1 : numN L (p + 1) 3 < 10 ^ 3 := num_le (N := N) 3 (zd_dig (k := 0) (by omega))
  obtain ⟨t1, -, -⟩ := htd
  rw [if_pos hc] at t1
  have el : la N lt p = nI 100 := by rw [la, if_pos g1, (hL p g1).1, hc]
  rw [hc] at hlo
  generalize numN L (p + 1) 3 = a at *
  have b1 : a < 1000 := by omega
  have eR : F_Let_refusalAt (nI N) lt (nI m) (nI n) (nI p) = F_Sta_dayRefusal (nI m) (nI n) (nI a) := by
    unfold F_Let_refusalAt
    rw [k1, Option.bind_some, k2, Option.bind_some, C_at hN (by omega), Option.bind_some, el, if_pos (show nI 100 = 100 from rfl), k3, Option.bind_some, e1]
    cases F_Sta_dayRefusal (nI m) (nI n) (nI a) <;> rfl
  have eC : ∀ z, F_M_comesTold (nI m) (nI q) (nI n) fg hm kd lf lo td wi wt (nI j) = z → z = (if nI (2 ^ n) ≤ nI a then some (0, nI m, nI q, nI n, fg, hm, kd, lf, wi, wt) else if (8 : Int32) ≤ nI m then some (0, nI m, nI q, nI n, fg, hm, kd, lf, wi, wt) else (F_M_dayComes (nI m) hm (nI a)).bind (fun q_10 => some (1, q_10.1, nI q, nI n, fg, q_10.2, kd, lf, wi, wt))) := by
    intro z hz
    rw [← hz]
    unfold F_M_comesTold F_M_comesTold_J151_12 F_M_comesTold_J152_7 ckz
    rw [mul3 (by omega), nI_1, show nI (3 * j) + 2 = nI (3 * j + 2) from nI_addS (b := 2) (by omega), ck_nI _ (show 3 * j < 147 by omega) (by omega), ck_nI _ (show 3 * j + 1 < 147 by omega) (by omega), ck_nI _ (show 3 * j + 2 < 147 by omega) (by omega), ck_nI _ (show j < 49 by omega) (by omega), nI_clamp (show j < 2 ^ 31 by omega), hlo, if_pos (show nI 100 = 100 from rfl), nI_clamp (show 3 * j < 2 ^ 31 by omega), t1, shl_n hn]
    rfl
  by_cases c1 : a < 2 ^ n
  · by_cases c2 : m < 8
    · refine ⟨0, ?_, Or.inr ⟨rfl, nI n, nI (m + 1), nI q, wt, kd, fg, go, upd hm m (nI a), wi, lf, ?_, ?_, ?_, ?_⟩⟩
      · rw [eR]
        unfold F_Sta_dayRefusal
        rw [if_pos (show (0 : Int32) ≤ nI a by rw [i32_le, nI_toInt (by omega), Int32.toInt_zero]; omega), C_sets hn, Option.bind_some, if_neg (show ¬ nI (2 ^ n - 1) < nI a by rw [i32_lt, nI_toInt (by omega), nI_toInt (by omega)]; omega), if_pos (ltC 8 8 c2 (by omega) rfl)]
      · unfold F_Let_bring
        rw [k1, Option.bind_some, k2, Option.bind_some, C_at hN (by omega), Option.bind_some, el, if_pos (show nI 100 = 100 from rfl), k3, Option.bind_some, e1]
        unfold F_Sta_addDay
        rw [if_neg (nleC 8 8 c2 (by omega) rfl), ck_nI _ c2 (by omega), nI_clamp (show m < 2 ^ 31 by omega), nI_1, Option.bind_some, upd_cn _ _ _ c2]
      · rw [eC _ rfl, if_neg (show ¬ nI (2 ^ n) ≤ nI a by rw [i32_le, nI_toInt (by omega), nI_toInt (by omega)]; omega), if_neg (nleC 8 8 c2 (by omega) rfl)]
        unfold F_M_dayComes
        rw [ck_nI _ c2 (by omega), nI_clamp (show m < 2 ^ 31 by omega), nI_1]
        rfl
      · refine ⟨n, m + 1, q, hn, by omega, hq, rfl, rfl, rfl, hw, ht, fun i hi => ?_, hf⟩
        by_cases e : i = m
        · subst e
          exact ⟨a, c1, updA _ _ _⟩
        · obtain ⟨x, x1, x2⟩ := hd i (by omega)
          exact ⟨x, x1, by rw [updN _ _ e, x2]⟩
      · exact ⟨fun i _ => rfl, fun i _ => rfl, fun i _ => rfl, fun i _ => rfl, upd_out _ _ c2, fun i _ => rfl, fun i _ => rfl⟩
    · refine ⟨-6, ?_, Or.inl ⟨by decide, ?_⟩⟩
      · rw [eR]
        unfold F_Sta_dayRefusal
        rw [if_pos (show (0 : Int32) ≤ nI a by rw [i32_le, nI_toInt (by omega), Int32.toInt_zero]; omega), C_sets hn, Option.bind_some, if_neg (show ¬ nI (2 ^ n - 1) < nI a by rw [i32_lt, nI_toInt (by omega), nI_toInt (by omega)]; omega), if_neg (show ¬ nI m < 8 by rw [i32_lt, nI_toInt (by omega), show (8 : Int32).toInt = 8 by decide +kernel]; omega)]
      · rw [eC _ rfl, if_neg (show ¬ nI (2 ^ n) ≤ nI a by rw [i32_le, nI_toInt (by omega), nI_toInt (by omega)]; omega), if_pos (show (8 : Int32) ≤ nI m by rw [i32_le, nI_toInt (by omega), show (8 : Int32).toInt = 8 by decide +kernel]; omega)]
  · refine ⟨-6, ?_, Or.inl ⟨by decide, ?_⟩⟩
    · rw [eR]
      unfold F_Sta_dayRefusal
      rw [if_pos (show (0 : Int32) ≤ nI a by rw [i32_le, nI_toInt (by omega), Int32.toInt_zero]; omega), C_sets hn, Option.bind_some, if_pos (show nI (2 ^ n - 1) < nI a by rw [i32_lt, nI_toInt (by omega), nI_toInt (by omega)]; omega)]
    · rw [eC _ rfl, if_pos (show nI (2 ^ n) ≤ nI a by rw [i32_le, nI_toInt (by omega), nI_toInt (by omega)]; omega)]
theorem hs_f {N p j : Nat} {L : Nat → Nat} {lt lo td : Nat → Int32} (hN : N ≤ 96) (hL : ∀ p, p < N → lt p = nI (L p) ∧ L p ≤ 255) (hg : gdS N L p = true) (hc : L p = 102) (hj : j ≤ 40) (hlo : lo j = nI (L p)) (htd : tdS L td j p) (tlf twi tfg tgo thm tkd twt : Nat → Int32) {th dy dn : Int32} {wt kd fg go hm wi lf : Nat → Int32} (hS : IS th dy dn wt kd fg go hm wi lf) : hStep N lt lo td p j tlf twi tfg tgo thm tkd twt th dy dn wt kd fg go hm wi lf := by
  obtain ⟨n, m, q, hn, hm8, hq, rfl, rfl, rfl, hw, ht, hd, hf⟩ := hS
  obtain ⟨g1, g2, g3, g4, g5⟩ := gdS_y hg
  obtain ⟨k1, k2, k3, k4, k5⟩ := C_nums (p := p) hN (by omega) lt
  have hdg : dgb (L p) = 4 := by rw [hc]; rfl
  rw [hdg] at g3
  have e1 : cnum N lt (p + 1) 1 = nI (numN L (p + 1) 1) := cnum_num hL (by omega) (zd_dig (k := 0) (by omega))
  have e2 : cnum N lt (p + 2) 2 = nI (numN L (p + 2) 2) := cnum_num hL (by omega) (zd_dig (p := p + 1) (k := 1) (by omega))
  have e3 : cnum N lt (p + 4) 1 = nI (numN L (p + 4) 1) := cnum_num hL (by omega) (zd_dig (p := p + 1) (k := 3) (by omega))
  have b1 : numN L (p + 1) 1 < 10 ^ 1 := num_le (N := N) 1 (zd_dig (k := 0) (by omega))
  have b2 : numN L (p + 2) 2 < 10 ^ 2 := num_le (N := N) 2 (zd_dig (p := p + 1) (k := 1) (by omega))
  have b3 : numN L (p + 4) 1 < 10 ^ 1 := num_le (N := N) 1 (zd_dig (p := p + 1) (k := 3) (by omega))
  obtain ⟨t1, t2, t3⟩ := htd
  rw [if_neg (show ¬ L p = 100 by omega)] at t1
  have t2 := t2 (Or.inr (Or.inr (Or.inr hc)))
  rw [if_pos hc] at t2
  have t3 := t3 hc
  have el : la N lt p = nI 102 := by rw [la, if_pos g1, (hL p g1).1, hc]
  rw [hc] at hlo
  generalize numN L (p + 1) 1 = a at *
  generalize numN L (p + 2) 2 = b at *
  generalize numN L (p + 4) 1 = c at *
  have b1 : a ≤ 9 := by omega
  have b2 : b < 100 := by omega
  have b3 : c ≤ 9 := by omega
  have hc0 : (0 : Int32) ≤ nI c := by rw [i32_le, nI_toInt (by omega), Int32.toInt_zero]; omega
  have hc9 : nI c ≤ 9 := by rw [i32_le, nI_toInt (by omega), show (9 : Int32).toInt = 9 by decide +kernel]; omega
  have eR : F_Let_refusalAt (nI N) lt (nI m) (nI n) (nI p) = F_Fld_wishRefusal (nI a) (nI b) (nI c) := by
    unfold F_Let_refusalAt
    rw [k1, Option.bind_some, k2, Option.bind_some, C_at hN (by omega), Option.bind_some, el, if_neg (show ¬ nI 102 = 100 by decide), if_pos (show nI 102 = 102 from rfl), k4, Option.bind_some, k5, Option.bind_some, e1, e2, e3]
    cases F_Fld_wishRefusal (nI a) (nI b) (nI c) <;> rfl
  have eC : ∀ z, F_M_comesTold (nI m) (nI q) (nI n) fg hm kd lf lo td wi wt (nI j) = z → z = (if (4 : Int32) ≤ nI a then some (0, nI m, nI q, nI n, fg, hm, kd, lf, wi, wt) else if (64 : Int32) ≤ nI b then some (0, nI m, nI q, nI n, fg, hm, kd, lf, wi, wt) else ck (nI a) 4 (ck (nI a) 4 (some (1, nI m, nI q, nI n, fg, hm, kd, upd lf (nI a).toNatClampNeg (nI c), upd wi (nI a).toNatClampNeg (nI b), wt)))) := by
    intro z hz
    rw [← hz]
    unfold F_M_comesTold F_M_comesTold_J210_22 F_M_comesTold_J211_16 ckz
    rw [mul3 (by omega), nI_1, show nI (3 * j) + 2 = nI (3 * j + 2) from nI_addS (b := 2) (by omega), ck_nI _ (show 3 * j < 147 by omega) (by omega), ck_nI _ (show 3 * j + 1 < 147 by omega) (by omega), ck_nI _ (show 3 * j + 2 < 147 by omega) (by omega), ck_nI _ (show j < 49 by omega) (by omega), nI_clamp (show j < 2 ^ 31 by omega), hlo, if_neg (show ¬ nI 102 = 100 by decide), if_pos (show nI 102 = 102 from rfl), nI_clamp (show 3 * j < 2 ^ 31 by omega), nI_clamp (show 3 * j + 1 < 2 ^ 31 by omega), nI_clamp (show 3 * j + 2 < 2 ^ 31 by omega), t1, t2, t3]
    rfl
  by_cases c1 : a < 4
  · by_cases c2 : b < 64
    · refine ⟨0, ?_, Or.inr ⟨rfl, nI n, nI m, nI q, wt, kd, fg, go, hm, upd wi a (nI b), upd lf a (nI c), ?_, ?_, ?_, ?_⟩⟩
      · rw [eR]
        unfold F_Fld_wishRefusal
        rw [isF_y c1, Option.bind_some, if_neg (by decide), if_neg (nI_ge0 (by omega)), if_pos hc0, if_neg (show ¬ (63 : Int32) < nI b by rw [i32_lt, nI_toInt (by omega), show (63 : Int32).toInt = 63 by decide +kernel]; omega), if_pos hc9]
      · unfold F_Let_bring
        rw [k1, Option.bind_some, k2, Option.bind_some, C_at hN (by omega), Option.bind_some, el, if_neg (show ¬ nI 102 = 100 by decide), if_pos (show nI 102 = 102 from rfl), k4, Option.bind_some, k5, Option.bind_some, e1, e2, e3]
        unfold F_Fld_become
        rw [isF_y c1, Option.bind_some, if_neg (by decide), ck_nI _ c1 (by omega), ck_nI _ c1 (by omega), nI_clamp (show a < 2 ^ 31 by omega), Option.bind_some, upd_cn _ _ _ c1, upd_cn _ _ _ c1]
      · rw [eC _ rfl, if_neg (nleC 4 4 c1 (by omega) rfl), if_neg (nleC 64 64 c2 (by omega) rfl), ck_nI _ c1 (by omega), ck_nI _ c1 (by omega), nI_clamp (show a < 2 ^ 31 by omega)]
      · refine ⟨n, m, q, hn, hm8, hq, rfl, rfl, rfl, hw, ht, hd, fun i hi => ?_⟩
        by_cases e : i = a
        · subst e
          exact ⟨b, c, by omega, b3, updA _ _ _, updA _ _ _⟩
        · obtain ⟨x, y, x1, x2, x3, x4⟩ := hf i hi
          exact ⟨x, y, x1, x2, by rw [updN _ _ e, x3], by rw [updN _ _ e, x4]⟩
      · exact ⟨fun i _ => rfl, fun i _ => rfl, fun i _ => rfl, fun i _ => rfl, fun i _ => rfl, upd_out _ _ c1, upd_out _ _ c1⟩
    · refine ⟨-6, ?_, Or.inl ⟨by decide, ?_⟩⟩
      · rw [eR]
        unfold F_Fld_wishRefusal
        rw [isF_y c1, Option.bind_some, if_neg (by decide), if_neg (nI_ge0 (by omega)), if_pos hc0, if_pos (show (63 : Int32) < nI b by rw [i32_lt, nI_toInt (by omega), show (63 : Int32).toInt = 63 by decide +kernel]; omega)]
      · rw [eC _ rfl, if_neg (nleC 4 4 c1 (by omega) rfl), if_pos (show (64 : Int32) ≤ nI b by rw [i32_le, nI_toInt (by omega), show (64 : Int32).toInt = 64 by decide +kernel]; omega)]
  · refine ⟨-1, ?_, Or.inl ⟨by decide, ?_⟩⟩
    · rw [eR]
      unfold F_Fld_wishRefusal
      rw [isF_n (Or.inr ⟨nI_ge0 (by omega), nI_le (by omega) (by omega)⟩), Option.bind_some, if_pos rfl]
    · rw [eC _ rfl, if_pos (show (4 : Int32) ≤ nI a by rw [i32_le, nI_toInt (by omega), show (4 : Int32).toInt = 4 by decide +kernel]; omega)]
theorem IS_spl {th dy dn : Int32} {wt kd fg go hm wi lf : Nat → Int32} (hS : IS th dy dn wt kd fg go hm wi lf) (W : Int32) : IS th dy (spd lf wi W dn) wt kd fg go hm wi (spl lf wi W) := by
  obtain ⟨n, m, q, hn, hm8, hq, rfl, rfl, rfl, hw, ht, hd, hf⟩ := hS
  cases e : ffw lf wi W with
  | none =>
    rw [spd_n e, spl_n e]
    exact ⟨n, m, q, hn, hm8, hq, rfl, rfl, rfl, hw, ht, hd, hf⟩
  | some f =>
    obtain ⟨hf4, hf0, -⟩ := ffw_in e
    have hq2 : ∃ q2, q2 ≤ 999 ∧ spd lf wi W (nI q) = nI q2 := by
      rw [spd_y e]
      by_cases c : (999 : Int32) ≤ nI q
      · rw [if_pos c]
        exact ⟨q, hq, rfl⟩
      · rw [if_neg c]
        rw [i32_le, nI_toInt (by omega), show (999 : Int32).toInt = 999 by decide +kernel] at c
        exact ⟨q + 1, by omega, nI_1 q⟩
    obtain ⟨q2, hq2, eq2⟩ := hq2
    refine ⟨n, m, q2, hn, hm8, hq2, rfl, rfl, eq2, hw, ht, hd, fun j hj => ?_⟩
    rw [spl_y e]
    by_cases ej : j = f
    · subst ej
      obtain ⟨a, b, h1, h2, h3, h4⟩ := hf j hj
      have hb : 1 ≤ b := by
        rw [h4, i32_le, nI_toInt (by omega), Int32.toInt_zero] at hf0
        omega
      exact ⟨a, b - 1, h1, by omega, h3, by rw [updA, h4, sub1 hb]⟩
    · obtain ⟨a, b, h1, h2, h3, h4⟩ := hf j hj
      exact ⟨a, b, h1, h2, h3, by rw [updN _ _ ej, h4]⟩
theorem spd_cp (l lf w wi : Nat → Int32) (x dn : Int32) : spd (cpf l lf 4) (cpf w wi 4) x dn = spd lf wi x dn := by
  unfold spd
  rw [ffw_cp]
theorem hs_s {N p j : Nat} {L : Nat → Nat} {lt lo td : Nat → Int32} (hN : N ≤ 96) (hL : ∀ p, p < N → lt p = nI (L p) ∧ L p ≤ 255) (hg : gdS N L p = true) (hc : L p = 115) (hj : j ≤ 40) (hlo : lo j = nI (L p)) (htd : tdS L td j p) (tlf twi tfg tgo thm tkd twt : Nat → Int32) {th dy dn : Int32} {wt kd fg go hm wi lf : Nat → Int32} (hS : IS th dy dn wt kd fg go hm wi lf) : hStep N lt lo td p j tlf twi tfg tgo thm tkd twt th dy dn wt kd fg go hm wi lf := by
  have hS0 := hS
  obtain ⟨n, m, q, hn, hm8, hq, rfl, rfl, rfl, hw, ht, hd, hf⟩ := hS
  obtain ⟨g1, g2, g3, g4, g5⟩ := gdS_y hg
  obtain ⟨k1, k2, k3, k4, k5⟩ := C_nums (p := p) hN (by omega) lt
  have hdg : dgb (L p) = 1 := by rw [hc]; rfl
  rw [hdg] at g3
  have e1 : cnum N lt (p + 1) 1 = nI (numN L (p + 1) 1) := cnum_num hL (by omega) (zd_dig (k := 0) (by omega))
  have b1 : numN L (p + 1) 1 < 10 ^ 1 := num_le (N := N) 1 (zd_dig (k := 0) (by omega))
  obtain ⟨t1, -, -⟩ := htd
  rw [if_neg (show ¬ L p = 100 by omega)] at t1
  have el : la N lt p = nI 115 := by rw [la, if_pos g1, (hL p g1).1, hc]
  rw [hc] at hlo
  generalize numN L (p + 1) 1 = a at *
  have b1 : a ≤ 9 := by omega
  have eR : F_Let_refusalAt (nI N) lt (nI m) (nI n) (nI p) = F_Sta_spendRefusal (nI m) (nI a) 9 := by
    unfold F_Let_refusalAt
    rw [k1, Option.bind_some, k2, Option.bind_some, C_at hN (by omega), Option.bind_some, el, if_neg (show ¬ nI 115 = 100 by decide), if_neg (show ¬ nI 115 = 102 by decide), if_neg (show ¬ nI 115 = 112 by decide), if_pos (show nI 115 = 115 from rfl), e1]
    cases F_Sta_spendRefusal (nI m) (nI a) 9 <;> rfl
  have eC : ∀ z, F_M_comesTold (nI m) (nI q) (nI n) fg hm kd lf lo td wi wt (nI j) = z → z = (F_M_isDay (nI m) (nI a)).bind (fun q_25 => (if q_25 = 0 then (ckz q_25 (some (q_25, nI m, nI q, nI n, fg, hm, kd, lf, wi, wt))) else ((F_M_likelyOn (nI n) fg hm kd wt (nI a)).bind (fun q_28 => ((F_M_spendWith (nI q) lf wi q_28).bind (fun q_29 => (ckz q_25 (some (q_25, nI m, q_29.2.1, nI n, fg, hm, kd, q_29.2.2, wi, wt))))))))) := by
    intro z hz
    rw [← hz]
    unfold F_M_comesTold
    rw [mul3 (by omega), nI_1, show nI (3 * j) + 2 = nI (3 * j + 2) from nI_addS (b := 2) (by omega), ck_nI _ (show 3 * j < 147 by omega) (by omega), ck_nI _ (show 3 * j + 1 < 147 by omega) (by omega), ck_nI _ (show 3 * j + 2 < 147 by omega) (by omega), ck_nI _ (show j < 49 by omega) (by omega), nI_clamp (show j < 2 ^ 31 by omega), hlo, if_neg (show ¬ nI 115 = 100 by decide), if_neg (show ¬ nI 115 = 102 by decide), if_pos (show nI 115 = 115 from rfl), nI_clamp (show 3 * j < 2 ^ 31 by omega), t1]
  by_cases c1 : a < m
  · have eLK : LK (cpf tgo go 8) (cpf twt wt 6) (cpf thm hm 8 a) = LK go wt (hm a) := by
      rw [cpf_at (show a < 8 by omega)]
      exact LK_cong _ (fun i hi => cpf_at hi) (fun i hi => cpf_at hi)
    refine ⟨0, ?_, Or.inr ⟨rfl, nI n, nI m, spd lf wi (LK go wt (hm a)) (nI q), wt, kd, fg, go, hm, wi, spl lf wi (LK go wt (hm a)), ?_, ?_, ?_, ?_⟩⟩
    · rw [eR]
      unfold F_Sta_spendRefusal
      rw [hasD_y c1 hm8, Option.bind_some, if_neg (by decide), isW_n (show (9 : Int32) < 0 ∨ (¬ (9 : Int32) < 0 ∧ nI 6 ≤ 9) from Or.inr (by decide)), Option.bind_some, if_pos rfl, if_pos rfl]
    · unfold F_Let_bring
      rw [k1, Option.bind_some, k2, Option.bind_some, C_at hN (by omega), Option.bind_some, el, if_neg (show ¬ nI 115 = 100 by decide), if_neg (show ¬ nI 115 = 102 by decide), if_neg (show ¬ nI 115 = 112 by decide), if_pos (show nI 115 = 115 from rfl), e1, C_on hm8 c1, Option.bind_some, eLK, C_spend, Option.bind_some, spd_cp, spl_cp]
    · rw [eC _ rfl, isD_y c1 hm8, Option.bind_some, if_neg (by decide), M_on hn hm8 ht hd c1, Option.bind_some, M_spend (LK_or go wt (hm a)), Option.bind_some]
      rfl
    · exact IS_spl hS0 _
    · exact ⟨fun i _ => rfl, fun i _ => rfl, fun i _ => rfl, fun i _ => rfl, fun i _ => rfl, fun i _ => rfl, fun i hi => spl_out hi⟩
  · refine ⟨-1, ?_, Or.inl ⟨by decide, ?_⟩⟩
    · rw [eR]
      unfold F_Sta_spendRefusal
      rw [hasD_n (Or.inr ⟨nI_ge0 (by omega), nI_le (by omega) (by omega)⟩), Option.bind_some, if_pos rfl]
    · rw [eC _ rfl, isD_n (Or.inr ⟨nI_ge0 (by omega), nI_le (by omega) (by omega)⟩) hm8, Option.bind_some, if_pos rfl]
      rfl
