-- the mean weight of the hampers
theorem hv_fin {kd fg : Nat → Int32} {t k f : Nat} (hk : k < 6) (hf : f ≤ 9) (e1 : kd t = nI k) (e2 : fg t = nI f) : ∃ d, d ≤ 99 ∧ hvf kd fg t = nI d := by
  have key : ∀ k : Fin 6, ∀ f : Fin 10, (0 : Int32) ≤ (F_Kin_heavy (nI k.val) (nI f.val)).getD 0 ∧ (F_Kin_heavy (nI k.val) (nI f.val)).getD 0 < 100 := by decide +kernel
  have h1 : (0 : Int32) ≤ (F_Kin_heavy (nI k) (nI f)).getD 0 := (key ⟨k, hk⟩ ⟨f, by omega⟩).1
  have h2 : (F_Kin_heavy (nI k) (nI f)).getD 0 < 100 := (key ⟨k, hk⟩ ⟨f, by omega⟩).2
  have e : hvf kd fg t = (F_Kin_heavy (nI k) (nI f)).getD 0 := by unfold hvf; rw [e1, e2]
  rw [e]
  rcases inR ((F_Kin_heavy (nI k) (nI f)).getD 0) 100 (by omega) with ⟨d, hd, e3⟩ | h | ⟨-, h⟩
  · exact ⟨d, by omega, e3⟩
  · rw [i32_lt, Int32.toInt_zero] at h
    rw [i32_le, Int32.toInt_zero] at h1
    omega
  · rw [i32_le] at h
    rw [i32_lt] at h2
    exact absurd (Int.lt_of_le_of_lt h h2) (by decide +kernel)
theorem hv_99 {kd fg go : Nat → Int32} {n : Nat} (hn : n ≤ 8) (ht : ∀ j, j < n → ∃ k f, k < 6 ∧ f ≤ 9 ∧ kd j = nI k ∧ fg j = nI f ∧ go j = nI (gw k f)) {h : Nat} (hh : h < 2 ^ n) : ∃ s, s < 1000 ∧ wsm (hvf kd fg) (nI h) 8 = nI s := by
  rw [wsm_out (hvf kd fg) (nI h) n 8 hn (fun t h1 h2 => bt_out n hn h hh t h2 h1)]
  obtain ⟨s, h1, h2⟩ := wsm_99 (v := hvf kd fg) (n := n) (fun j hj => by
    obtain ⟨k, f, a, b, c, d, -⟩ := ht j hj
    exact hv_fin a b c d) (nI h) n (Nat.le_refl n) hn
  exact ⟨s, by omega, h2⟩
def hvS (hm kd fg : Nat → Int32) : Nat → Int32
  | 0 => 0
  | d + 1 => hvS hm kd fg d + wsm (hvf kd fg) (hm d) 8
theorem hvS_n {kd fg go hm : Nat → Int32} {n m : Nat} (hn : n ≤ 8) (ht : ∀ j, j < n → ∃ k f, k < 6 ∧ f ≤ 9 ∧ kd j = nI k ∧ fg j = nI f ∧ go j = nI (gw k f)) (hd : ∀ j, j < m → ∃ h, h < 2 ^ n ∧ hm j = nI h) (hm8 : m ≤ 8) : ∀ d, d ≤ m → ∃ s, s ≤ 1000 * d ∧ hvS hm kd fg d = nI s
  | 0, _ => ⟨0, by omega, rfl⟩
  | d + 1, h => by
    obtain ⟨s, h1, h2⟩ := hvS_n hn ht hd hm8 d (by omega)
    obtain ⟨g, a1, a2⟩ := hd d (by omega)
    obtain ⟨b, b1, b2⟩ := hv_99 hn ht a1
    refine ⟨s + b, by omega, ?_⟩
    rw [hvS, h2, a2, b2, nI_addS (by omega)]
theorem wsm_0 (v : Nat → Int32) : ∀ t, t ≤ 8 → wsm v 0 t = 0
  | 0, _ => rfl
  | t + 1, h => by
    have e : bt 0 t = false := bt00 t (by omega)
    rw [wsm_n e, wsm_0 v t (by omega)]
theorem C_hAll {kd fg hm : Nat → Int32} {m : Nat} (hm8 : m ≤ 8) : F_Dia_heavyOfAll (nI m) fg hm kd = some (hvS hm kd fg m) := by
  unfold F_Dia_heavyOfAll
  refine (wh_forB (fun i => (hvS hm kd fg (min i m), nI i)) 8 (hvS hm kd fg m) 400 (by omega) (fun i hi => ?_) ?_).trans rfl
  · show F_Dia_heavyOfAll_L4 (nI m) fg hm kd (hvS hm kd fg (min i m)) (nI i) = some (Sum.inl (hvS hm kd fg (min (i + 1) m), nI (i + 1)))
    unfold F_Dia_heavyOfAll_L4
    rw [if_neg (nleC 8 8 hi (by omega) rfl)]
    by_cases c : i < m
    · rw [C_ham hm8 c, Option.bind_some, C_heavy, Option.bind_some, nI_1, Nat.min_eq_left (by omega), Nat.min_eq_left (by omega), hvS]
    · rw [C_ham_n (by omega) hi, Option.bind_some, C_heavy, Option.bind_some, wsm_0 _ 8 (by omega), nI_1, Nat.min_eq_right (by omega), Nat.min_eq_right (by omega), Int32.add_zero]
  · show F_Dia_heavyOfAll_L4 (nI m) fg hm kd (hvS hm kd fg (min 8 m)) (nI 8) = _
    unfold F_Dia_heavyOfAll_L4
    rw [if_pos (by decide), Nat.min_eq_right hm8]
theorem P_mean {hk : Int32} {th : Int32} {dy : Int32} {dn : Int32} {wt : Nat → Int32} {kd : Nat → Int32} {fg : Nat → Int32} {go : Nat → Int32} {hm : Nat → Int32} {wi : Nat → Int32} {lf : Nat → Int32} {kth : Int32} {kdy : Int32} {kdn : Int32} {kwt : Nat → Int32} {kkd : Nat → Int32} {kfg : Nat → Int32} {kgo : Nat → Int32} {khm : Nat → Int32} {kwi : Nat → Int32} {klf : Nat → Int32} {sc : Int32} {sg : Nat → Nat} {sp : Nat → Int32} {sl : Nat → Int32} {sb : Nat → Int32} {sf : Nat → Int32} {sd : Nat → Int32} {lc : Int32} {lt : Nat → Int32} {nc : Int32} {nu : Nat → Int32} {f_above : Int64} {f_below : Int64} {rf : Nat → Int32} {im : Nat → Int32} {tu : Nat → Int32} (hI : Inv th dy dn wt kd fg go hm wi lf hk kth kdy kdn kwt kkd kfg kgo khm kwi klf im sc sg sp sl sb sf sd tu lt lc nu nc) (x1 : Int32) : ∃ (r : Int64) (f_above' : Int64) (f_below' : Int64) (rf' : Nat → Int32) (m_thrown' : Int32), F_H_mean f_above f_below dy fg hm kd rf x1 = some (r, f_above', f_below', rf') ∧ F_M_mean dy th fg hm kd rf x1 = some (r, m_thrown', rf') := by
  obtain ⟨⟨n, m, q, hn, hm8, hq, rfl, rfl, rfl, hw, ht, hd, hf⟩, -⟩ := hI
  rcases inR x1 2 (by omega) with ⟨v, hv2, rfl⟩ | h
  · obtain ⟨s, s1, s2⟩ := hvS_n hn ht hd hm8 m (Nat.le_refl m)
    obtain ⟨fr, r, r1, r2, r3⟩ := frac8 (v := v) (a := s) (b := m) hv2 (by omega) hm8 (fun h => by omega)
    refine ⟨r, fr.1, fr.2, rf, 0, ?_, ?_⟩
    · unfold F_H_mean
      rw [isP_y hv2, Option.bind_some, if_neg (by decide), C_hAll hm8, Option.bind_some, s2, r1, Option.bind_some, r2]
      rfl
    · unfold F_M_mean
      rw [M_in0_y 2 1 hv2 (by omega) (by decide +kernel), Option.bind_some, if_neg (by decide)]
      refine (wh_forB (fun i => (hvS hm kd fg i, nI i)) m (hvS hm kd fg m) 400 (by omega) (fun i hi => ?_) ?_).trans ?_
      · show F_M_mean_L31 (nI m) (nI n) fg hm kd (hvS hm kd fg i) (nI i) = some (Sum.inl (hvS hm kd fg (i + 1), nI (i + 1)))
        obtain ⟨g, a1, a2⟩ := hd i hi
        unfold F_M_mean_L31
        rw [if_neg (nI_leN hi (by omega)), ck_nI _ (show i < 8 by omega) (by omega), nI_clamp (show i < 2 ^ 31 by omega), a2, M_HV hn ht a1, Option.bind_some, nI_1, hvS, a2]
      · show F_M_mean_L31 (nI m) (nI n) fg hm kd (hvS hm kd fg m) (nI m) = _
        unfold F_M_mean_L31
        rw [if_pos (by rw [i32_le]; omega)]
      · rw [s2, r3]
        rfl
  · refine ⟨(4000000000000000000 : Int64) - Int32.toInt64 (-2), f_above, f_below, rfx rf 2, 0, ?_, ?_⟩
    · unfold F_H_mean
      rw [isP_n h]
      rfl
    · unfold F_M_mean
      rw [M_in0_n 2 1 h (by omega) (by omega) (by decide +kernel)]
      rfl
