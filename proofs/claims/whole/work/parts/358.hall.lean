-- halls: one statement comes
def hOut (wt kd fg go hm wi lf wt2 kd2 fg2 go2 hm2 wi2 lf2 : Nat → Int32) : Prop := (∀ i, 6 ≤ i → wt2 i = wt i) ∧ (∀ i, 8 ≤ i → kd2 i = kd i) ∧ (∀ i, 8 ≤ i → fg2 i = fg i) ∧ (∀ i, 8 ≤ i → go2 i = go i) ∧ (∀ i, 8 ≤ i → hm2 i = hm i) ∧ (∀ i, 4 ≤ i → wi2 i = wi i) ∧ (∀ i, 4 ≤ i → lf2 i = lf i)
def hStep (N : Nat) (lt lo td : Nat → Int32) (p j : Nat) (tlf twi tfg tgo thm tkd twt : Nat → Int32) (th dy dn : Int32) (wt kd fg go hm wi lf : Nat → Int32) : Prop :=
  ∃ c, F_Let_refusalAt (nI N) lt dy th (nI p) = some c ∧ ((c ≠ 0 ∧ F_M_comesTold dy dn th fg hm kd lf lo td wi wt (nI j) = some (0, dy, dn, th, fg, hm, kd, lf, wi, wt)) ∨ (c = 0 ∧ ∃ (th' dy' dn' : Int32) (wt' kd' fg' go' hm' wi' lf' : Nat → Int32), F_Let_bring (nI N) lt dy dn th (cpf tlf lf 4) (cpf twi wi 4) (cpf tfg fg 8) (cpf tgo go 8) (cpf thm hm 8) (cpf tkd kd 8) (cpf twt wt 6) (nI p) = some (dy', dn', th', cpf tlf lf' 4, cpf twi wi' 4, cpf tfg fg' 8, cpf tgo go' 8, cpf thm hm' 8, cpf tkd kd' 8, cpf twt wt' 6) ∧ F_M_comesTold dy dn th fg hm kd lf lo td wi wt (nI j) = some (1, dy', dn', th', fg', hm', kd', lf', wi', wt') ∧ IS th' dy' dn' wt' kd' fg' go' hm' wi' lf' ∧ hOut wt kd fg go hm wi lf wt' kd' fg' go' hm' wi' lf'))
theorem upd_out (a : Nat → Int32) {n f : Nat} (v : Int32) (hf : f < n) : ∀ i, n ≤ i → upd a f v i = a i := fun i hi => updN _ _ (by omega)
theorem C_nums {N p : Nat} (hN : N ≤ 96) (hp : p < 200) (lt : Nat → Int32) : F_Let_number (nI N) lt (nI p + 1) 1 = some (cnum N lt (p + 1) 1) ∧ F_Let_number (nI N) lt (nI p + 2) 1 = some (cnum N lt (p + 2) 1) ∧ F_Let_number (nI N) lt (nI p + 1) 3 = some (cnum N lt (p + 1) 3) ∧ F_Let_number (nI N) lt (nI p + 2) 2 = some (cnum N lt (p + 2) 2) ∧ F_Let_number (nI N) lt (nI p + 4) 1 = some (cnum N lt (p + 4) 1) := by
  rw [show nI p + 1 = nI (p + 1) from nI_1 p, show nI p + 2 = nI (p + 2) from nI_addS (b := 2) (by omega), show nI p + 4 = nI (p + 4) from nI_addS (b := 4) (by omega)]
  exact ⟨C_number (d := 1) hN (by omega) (by omega) lt, C_number (d := 1) hN (by omega) (by omega) lt, C_number (d := 3) hN (by omega) (by omega) lt, C_number (d := 2) hN (by omega) (by omega) lt, C_number (d := 1) hN (by omega) (by omega) lt⟩
theorem zd_dig {N p d k : Nat} {L : Nat → Nat} (h : d + k ≤ zd N L p 5) : ∀ i, i < d → dig N L (p + k + i) = true := by
  intro i hi
  have := zd_lt (N := N) (L := L) 5 p (k + i) (by omega)
  rw [Nat.add_assoc]
  exact this
theorem hs_t {N p j : Nat} {L : Nat → Nat} {lt lo td : Nat → Int32} (hN : N ≤ 96) (hL : ∀ p, p < N → lt p = nI (L p) ∧ L p ≤ 255) (hg : gdS N L p = true) (hc : L p = 116) (hj : j ≤ 40) (hlo : lo j = nI (L p)) (htd : tdS L td j p) (tlf twi tfg tgo thm tkd twt : Nat → Int32) {th dy dn : Int32} {wt kd fg go hm wi lf : Nat → Int32} (hS : IS th dy dn wt kd fg go hm wi lf) : hStep N lt lo td p j tlf twi tfg tgo thm tkd twt th dy dn wt kd fg go hm wi lf := by
  obtain ⟨n, m, q, hn, hm8, hq, rfl, rfl, rfl, hw, ht, hd, hf⟩ := hS
  obtain ⟨g1, g2, g3, g4, g5⟩ := gdS_y hg
  obtain ⟨k1, k2, k3, k4, k5⟩ := C_nums (p := p) hN (by omega) lt
  have hdg : dgb (L p) = 2 := by rw [hc]; rfl
  rw [hdg] at g3
  have e1 : cnum N lt (p + 1) 1 = nI (numN L (p + 1) 1) := cnum_num hL (by omega) (zd_dig (k := 0) (by omega))
  have e2 : cnum N lt (p + 2) 1 = nI (numN L (p + 2) 1) := cnum_num hL (by omega) (zd_dig (p := p + 1) (k := 1) (by omega))
  have b1 : numN L (p + 1) 1 < 10 ^ 1 := num_le (N := N) 1 (zd_dig (k := 0) (by omega))
  have b2 : numN L (p + 2) 1 < 10 ^ 1 := num_le (N := N) 1 (zd_dig (p := p + 1) (k := 1) (by omega))
  obtain ⟨t1, t2, -⟩ := htd
  rw [if_neg (show ¬ L p = 100 by omega)] at t1
  have t2 := t2 (Or.inl hc)
  rw [if_neg (show ¬ L p = 102 by omega)] at t2
  have el : la N lt p = nI 116 := by rw [la, if_pos g1, (hL p g1).1, hc]
  rw [hc] at hlo
  generalize numN L (p + 1) 1 = a at *
  generalize numN L (p + 2) 1 = b at *
  have b1 : a ≤ 9 := by omega
  have b2 : b ≤ 9 := by omega
  have hb0 : (0 : Int32) ≤ nI b := by rw [i32_le, nI_toInt (by omega), Int32.toInt_zero]; omega
  have hb9 : ¬ (9 : Int32) < nI b := by rw [i32_lt, nI_toInt (by omega), show (9 : Int32).toInt = 9 by decide +kernel]; omega
  have eR : F_Let_refusalAt (nI N) lt (nI m) (nI n) (nI p) = F_Sta_thingRefusal (nI n) (nI a) (nI b) := by
    unfold F_Let_refusalAt
    rw [k1, Option.bind_some, k2, Option.bind_some, C_at hN (by omega), Option.bind_some, el, if_neg (show ¬ nI 116 = 100 by decide), if_neg (show ¬ nI 116 = 102 by decide), if_neg (show ¬ nI 116 = 112 by decide), if_neg (show ¬ nI 116 = 115 by decide), if_pos (show nI 116 = 116 from rfl), e1, e2]
    cases F_Sta_thingRefusal (nI n) (nI a) (nI b) <;> rfl
  have eC : ∀ z, F_M_comesTold (nI m) (nI q) (nI n) fg hm kd lf lo td wi wt (nI j) = z → z = (if (6 : Int32) ≤ nI a then some (0, nI m, nI q, nI n, fg, hm, kd, lf, wi, wt) else if (8 : Int32) ≤ nI n then some (0, nI m, nI q, nI n, fg, hm, kd, lf, wi, wt) else (F_M_thingComes (nI n) fg kd (nI a) (nI b)).bind (fun q_36 => some (1, nI m, nI q, q_36.1, q_36.2.1, hm, q_36.2.2, lf, wi, wt))) := by
    intro z hz
    rw [← hz]
    unfold F_M_comesTold F_M_comesTold_J111_38 F_M_comesTold_J112_33 ckz
    rw [mul3 (by omega), nI_1, show nI (3 * j) + 2 = nI (3 * j + 2) from nI_addS (b := 2) (by omega), ck_nI _ (show 3 * j < 147 by omega) (by omega), ck_nI _ (show 3 * j + 1 < 147 by omega) (by omega), ck_nI _ (show 3 * j + 2 < 147 by omega) (by omega), ck_nI _ (show j < 49 by omega) (by omega), nI_clamp (show j < 2 ^ 31 by omega), hlo, if_neg (show ¬ nI 116 = 100 by decide), if_neg (show ¬ nI 116 = 102 by decide), if_neg (show ¬ nI 116 = 115 by decide), if_pos (show nI 116 = 116 from rfl), nI_clamp (show 3 * j < 2 ^ 31 by omega), nI_clamp (show 3 * j + 1 < 2 ^ 31 by omega), t1, t2]
    rfl
  by_cases c1 : a < 6
  · by_cases c2 : n < 8
    · refine ⟨0, ?_, Or.inr ⟨rfl, nI (n + 1), nI m, nI q, wt, upd kd n (nI a), upd fg n (nI b), upd go n (nI (gw a b)), hm, wi, lf, ?_, ?_, ?_, ?_⟩⟩
      · rw [eR]
        unfold F_Sta_thingRefusal
        rw [if_neg (nI_ge0 (by omega)), if_pos (ltC 6 6 c1 (by omega) rfl), if_pos hb0, if_neg hb9, if_pos (ltC 8 8 c2 (by omega) rfl)]
      · unfold F_Let_bring
        rw [k1, Option.bind_some, k2, Option.bind_some, C_at hN (by omega), Option.bind_some, el, if_neg (show ¬ nI 116 = 100 by decide), if_neg (show ¬ nI 116 = 102 by decide), if_neg (show ¬ nI 116 = 112 by decide), if_neg (show ¬ nI 116 = 115 by decide), if_pos (show nI 116 = 116 from rfl), e1, e2]
        unfold F_Sta_addThing
        rw [if_neg (nleC 8 8 c2 (by omega) rfl), ck_nI _ c2 (by omega), ck_nI _ c2 (by omega), (goes_fin ⟨a, c1⟩ ⟨b, by omega⟩).2, Option.bind_some, ck_nI _ c2 (by omega), nI_clamp (show n < 2 ^ 31 by omega), nI_1, Option.bind_some, upd_cn _ _ _ c2, upd_cn _ _ _ c2, upd_cn _ _ _ c2]
      · rw [eC _ rfl, if_neg (nleC 6 6 c1 (by omega) rfl), if_neg (nleC 8 8 c2 (by omega) rfl)]
        unfold F_M_thingComes
        rw [ck_nI _ c2 (by omega), ck_nI _ c2 (by omega), nI_clamp (show n < 2 ^ 31 by omega), nI_1]
        rfl
      · refine ⟨n + 1, m, q, by omega, hm8, hq, rfl, rfl, rfl, hw, fun i hi => ?_, fun i hi => ?_, hf⟩
        · by_cases e : i = n
          · subst e
            exact ⟨a, b, c1, b2, updA _ _ _, updA _ _ _, updA _ _ _⟩
          · obtain ⟨x, y, x1, x2, x3, x4, x5⟩ := ht i (by omega)
            exact ⟨x, y, x1, x2, by rw [updN _ _ e, x3], by rw [updN _ _ e, x4], by rw [updN _ _ e, x5]⟩
        · obtain ⟨x, x1, x2⟩ := hd i hi
          have : 2 ^ n < 2 ^ (n + 1) := Nat.pow_lt_pow_right (by omega) (by omega)
          exact ⟨x, by omega, x2⟩
      · exact ⟨fun i _ => rfl, upd_out _ _ c2, upd_out _ _ c2, upd_out _ _ c2, fun i _ => rfl, fun i _ => rfl, fun i _ => rfl⟩
    · refine ⟨-6, ?_, Or.inl ⟨by decide, ?_⟩⟩
      · rw [eR]
        unfold F_Sta_thingRefusal
        rw [if_neg (nI_ge0 (by omega)), if_pos (ltC 6 6 c1 (by omega) rfl), if_pos hb0, if_neg hb9, if_neg (show ¬ nI n < 8 by rw [i32_lt, nI_toInt (by omega), show (8 : Int32).toInt = 8 by decide +kernel]; omega)]
      · rw [eC _ rfl, if_neg (nleC 6 6 c1 (by omega) rfl), if_pos (show (8 : Int32) ≤ nI n by rw [i32_le, nI_toInt (by omega), show (8 : Int32).toInt = 8 by decide +kernel]; omega)]
  · refine ⟨-2, ?_, Or.inl ⟨by decide, ?_⟩⟩
    · rw [eR]
      unfold F_Sta_thingRefusal
      rw [if_neg (nI_ge0 (by omega)), if_neg (show ¬ nI a < 6 by rw [i32_lt, nI_toInt (by omega), show (6 : Int32).toInt = 6 by decide +kernel]; omega)]
    · rw [eC _ rfl, if_pos (show (6 : Int32) ≤ nI a by rw [i32_le, nI_toInt (by omega), show (6 : Int32).toInt = 6 by decide +kernel]; omega)]
