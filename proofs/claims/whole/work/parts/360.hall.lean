-- halls: packed or unpacked
theorem hs_p {N p j : Nat} {L : Nat → Nat} {lt lo td : Nat → Int32} (hN : N ≤ 96) (hL : ∀ p, p < N → lt p = nI (L p) ∧ L p ≤ 255) (hg : gdS N L p = true) (hc : L p = 112) (hj : j ≤ 40) (hlo : lo j = nI (L p)) (htd : tdS L td j p) (tlf twi tfg tgo thm tkd twt : Nat → Int32) {th dy dn : Int32} {wt kd fg go hm wi lf : Nat → Int32} (hS : IS th dy dn wt kd fg go hm wi lf) : hStep N lt lo td p j tlf twi tfg tgo thm tkd twt th dy dn wt kd fg go hm wi lf := by
  obtain ⟨n, m, q, hn, hm8, hq, rfl, rfl, rfl, hw, ht, hd, hf⟩ := hS
  obtain ⟨g1, g2, g3, g4, g5⟩ := gdS_y hg
  obtain ⟨k1, k2, k3, k4, k5⟩ := C_nums (p := p) hN (by omega) lt
  have hdg : dgb (L p) = 2 := by rw [hc]; rfl
  rw [hdg] at g3
  have e1 : cnum N lt (p + 1) 1 = nI (numN L (p + 1) 1) := cnum_num hL (by omega) (zd_dig (k := 0) (by omega))
  have e2 : cnum N lt (p + 2) 1 = nI (numN L (p + 2) 1) := cnum_num hL (by omega) (zd_dig (p := p + 1) (k := 1) (by omega))
  have b1 : numN L (p + 1) 1 < 10 ^ 1 := num_le (N := N) 1 (zd_dig (k := 0) (by omega))
  have b2 : numN L (p + 2) 1 < 10 ^ 1 := num_le (N := N) 1 (zd_dig (p := p + 1) (k := 1) (by omega))
  obtain ⟨t1, t2, -⟩ := htd
  rw [if_neg (show ¬ L p = 100 by omega)] at t1
  have t2 := t2 (Or.inr (Or.inr (Or.inl hc)))
  rw [if_neg (show ¬ L p = 102 by omega)] at t2
  have el : la N lt p = nI 112 := by rw [la, if_pos g1, (hL p g1).1, hc]
  rw [hc] at hlo
  generalize numN L (p + 1) 1 = a at *
  generalize numN L (p + 2) 1 = b at *
  have b1 : a ≤ 9 := by omega
  have b2 : b ≤ 9 := by omega
  have eR : F_Let_refusalAt (nI N) lt (nI m) (nI n) (nI p) = F_Sta_packRefusal (nI m) (nI n) (nI a) (nI b) := by
    unfold F_Let_refusalAt
    rw [k1, Option.bind_some, k2, Option.bind_some, C_at hN (by omega), Option.bind_some, el, if_neg (show ¬ nI 112 = 100 by decide), if_neg (show ¬ nI 112 = 102 by decide), if_pos (show nI 112 = 112 from rfl), e1, e2]
    cases F_Sta_packRefusal (nI m) (nI n) (nI a) (nI b) <;> rfl
  have eC : ∀ z, F_M_comesTold (nI m) (nI q) (nI n) fg hm kd lf lo td wi wt (nI j) = z → z = ((F_M_isDay (nI m) (nI a)).bind (fun q_47 => (if q_47 = 0 then some (0, nI m, nI q, nI n, fg, hm, kd, lf, wi, wt) else ((F_M_isThing (nI n) (nI b)).bind (fun q_56 => (if q_56 = 0 then some (0, nI m, nI q, nI n, fg, hm, kd, lf, wi, wt) else ck (nI a) 8 (ck (nI a) 8 (some (1, nI m, nI q, nI n, fg, upd hm (nI a).toNatClampNeg (hm (nI a).toNatClampNeg ^^^ ((1 : Int32) <<< ((nI b : Int32) &&& 31))), kd, lf, wi, wt))))))))) := by
    intro z hz
    rw [← hz]
    unfold F_M_comesTold F_M_comesTold_J281_55 F_M_comesTold_J282_49 ckz
    rw [mul3 (by omega), nI_1, show nI (3 * j) + 2 = nI (3 * j + 2) from nI_addS (b := 2) (by omega), ck_nI _ (show 3 * j < 147 by omega) (by omega), ck_nI _ (show 3 * j + 1 < 147 by omega) (by omega), ck_nI _ (show 3 * j + 2 < 147 by omega) (by omega), ck_nI _ (show j < 49 by omega) (by omega), nI_clamp (show j < 2 ^ 31 by omega), hlo, if_neg (show ¬ nI 112 = 100 by decide), if_neg (show ¬ nI 112 = 102 by decide), if_neg (show ¬ nI 112 = 115 by decide), if_neg (show ¬ nI 112 = 116 by decide), if_neg (show ¬ nI 112 = 119 by decide), nI_clamp (show 3 * j < 2 ^ 31 by omega), nI_clamp (show 3 * j + 1 < 2 ^ 31 by omega), t1, t2]
    rfl
  by_cases c1 : a < m
  · by_cases c2 : b < n
    · refine ⟨0, ?_, Or.inr ⟨rfl, nI n, nI m, nI q, wt, kd, fg, go, upd hm a (hm a ^^^ nI (2 ^ b)), wi, lf, ?_, ?_, ?_, ?_⟩⟩
      · rw [eR]
        unfold F_Sta_packRefusal
        rw [hasD_y c1 hm8, Option.bind_some, if_neg (by decide), hasT_y c2 hn, Option.bind_some, if_neg (by decide)]
      · unfold F_Let_bring
        rw [k1, Option.bind_some, k2, Option.bind_some, C_at hN (by omega), Option.bind_some, el, if_neg (show ¬ nI 112 = 100 by decide), if_neg (show ¬ nI 112 = 102 by decide), if_pos (show nI 112 = 112 from rfl), e1, e2]
        have eP : ∃ v, F_Sta_packOrUnpack (nI m) (cpf thm hm 8) (nI a) (nI b) = some (v, upd (cpf thm hm 8) a (cpf thm hm 8 a ^^^ nI (2 ^ b))) := by
          unfold F_Sta_packOrUnpack
          rw [hasD_y c1 hm8, Option.bind_some, if_neg (by decide), ck_nI _ (show a < 8 by omega) (by omega), ck_nI _ (show a < 8 by omega) (by omega), ck_nI _ (show a < 8 by omega) (by omega), nI_clamp (show a < 2 ^ 31 by omega), holds_bt _ (show b < 31 by omega), Option.bind_some, shl_4 (show b < 8 by omega)]
          split
          · exact ⟨_, rfl⟩
          · exact ⟨_, rfl⟩
        obtain ⟨v, eP⟩ := eP
        rw [eP, Option.bind_some, cpf_at (show a < 8 by omega), upd_cn _ _ _ (show a < 8 by omega)]
      · rw [eC _ rfl, isD_y c1 hm8, Option.bind_some, if_neg (by decide), isT_y c2 hn, Option.bind_some, if_neg (by decide), ck_nI _ (show a < 8 by omega) (by omega), ck_nI _ (show a < 8 by omega) (by omega), nI_clamp (show a < 2 ^ 31 by omega), shl_4 (show b < 8 by omega)]
      · refine ⟨n, m, q, hn, hm8, hq, rfl, rfl, rfl, hw, ht, fun i hi => ?_, hf⟩
        by_cases e : i = a
        · subst e
          obtain ⟨x, x1, x2⟩ := hd i hi
          obtain ⟨k, k1, k2⟩ := xor_n hn x1 c2
          exact ⟨k, k1, by rw [updA, x2, k2]⟩
        · obtain ⟨x, x1, x2⟩ := hd i hi
          exact ⟨x, x1, by rw [updN _ _ e, x2]⟩
      · exact ⟨fun i _ => rfl, fun i _ => rfl, fun i _ => rfl, fun i _ => rfl, upd_out _ _ (show a < 8 by omega), fun i _ => rfl, fun i _ => rfl⟩
    · refine ⟨-1, ?_, Or.inl ⟨by decide, ?_⟩⟩
      · rw [eR]
        unfold F_Sta_packRefusal
        rw [hasD_y c1 hm8, Option.bind_some, if_neg (by decide), hasT_n (Or.inr ⟨nI_ge0 (by omega), nI_le (by omega) (by omega)⟩), Option.bind_some, if_pos rfl]
      · rw [eC _ rfl, isD_y c1 hm8, Option.bind_some, if_neg (by decide), isT_n (Or.inr ⟨nI_ge0 (by omega), nI_le (by omega) (by omega)⟩) hn, Option.bind_some, if_pos rfl]
  · refine ⟨-1, ?_, Or.inl ⟨by decide, ?_⟩⟩
    · rw [eR]
      unfold F_Sta_packRefusal
      rw [hasD_n (Or.inr ⟨nI_ge0 (by omega), nI_le (by omega) (by omega)⟩), Option.bind_some, if_pos rfl]
    · rw [eC _ rfl, isD_n (Or.inr ⟨nI_ge0 (by omega), nI_le (by omega) (by omega)⟩) hm8, Option.bind_some, if_pos rfl]
theorem hs_any {N p j : Nat} {L : Nat → Nat} {lt lo td : Nat → Int32} (hN : N ≤ 96) (hL : ∀ p, p < N → lt p = nI (L p) ∧ L p ≤ 255) (hg : gdS N L p = true) (hj : j ≤ 40) (hlo : lo j = nI (L p)) (htd : tdS L td j p) (tlf twi tfg tgo thm tkd twt : Nat → Int32) {th dy dn : Int32} {wt kd fg go hm wi lf : Nat → Int32} (hS : IS th dy dn wt kd fg go hm wi lf) : hStep N lt lo td p j tlf twi tfg tgo thm tkd twt th dy dn wt kd fg go hm wi lf := by
  rcases head_or (gdS_y hg).2.1 with ⟨hc, -⟩ | ⟨hc, -⟩ | ⟨hc, -⟩ | ⟨hc, -⟩ | ⟨hc, -⟩ | ⟨hc, -⟩
  · exact hs_d hN hL hg hc hj hlo htd tlf twi tfg tgo thm tkd twt hS
  · exact hs_f hN hL hg hc hj hlo htd tlf twi tfg tgo thm tkd twt hS
  · exact hs_p hN hL hg hc hj hlo htd tlf twi tfg tgo thm tkd twt hS
  · exact hs_s hN hL hg hc hj hlo htd tlf twi tfg tgo thm tkd twt hS
  · exact hs_t hN hL hg hc hj hlo htd tlf twi tfg tgo thm tkd twt hS
  · exact hs_w hN hL hg hc hj hlo htd tlf twi tfg tgo thm tkd twt hS
theorem hOut_trans {wt kd fg go hm wi lf wt2 kd2 fg2 go2 hm2 wi2 lf2 wt3 kd3 fg3 go3 hm3 wi3 lf3 : Nat → Int32} (h : hOut wt kd fg go hm wi lf wt2 kd2 fg2 go2 hm2 wi2 lf2) (h2 : hOut wt2 kd2 fg2 go2 hm2 wi2 lf2 wt3 kd3 fg3 go3 hm3 wi3 lf3) : hOut wt kd fg go hm wi lf wt3 kd3 fg3 go3 hm3 wi3 lf3 := by
  obtain ⟨a1, a2, a3, a4, a5, a6, a7⟩ := h
  obtain ⟨b1, b2, b3, b4, b5, b6, b7⟩ := h2
  exact ⟨fun i hi => (b1 i hi).trans (a1 i hi), fun i hi => (b2 i hi).trans (a2 i hi), fun i hi => (b3 i hi).trans (a3 i hi), fun i hi => (b4 i hi).trans (a4 i hi), fun i hi => (b5 i hi).trans (a5 i hi), fun i hi => (b6 i hi).trans (a6 i hi), fun i hi => (b7 i hi).trans (a7 i hi)⟩
