-- the lightest day
def HVd (hm kd fg : Nat → Int32) (d : Nat) : Int32 := wsm (hvf kd fg) (hm d) 8
def kmn (v : Nat → Int32) (b i : Nat) : Bool := decide (v b ≤ v i)
theorem HVd_n {kd fg go hm : Nat → Int32} {n m : Nat} (hn : n ≤ 8) (ht : ∀ j, j < n → ∃ k f, k < 6 ∧ f ≤ 9 ∧ kd j = nI k ∧ fg j = nI f ∧ go j = nI (gw k f)) (hd : ∀ j, j < m → ∃ h, h < 2 ^ n ∧ hm j = nI h) {d : Nat} (h : d < m) : ∃ s, s < 1000 ∧ HVd hm kd fg d = nI s := by
  obtain ⟨g, a1, a2⟩ := hd d h
  obtain ⟨s, b1, b2⟩ := hv_99 hn ht a1
  exact ⟨s, b1, by unfold HVd; rw [a2, b2]⟩
theorem C_lday {kd fg hm : Nat → Int32} {m : Nat} (hm8 : m ≤ 8) : F_Dia_lightestDay (nI m) fg hm kd = some (ixO (fmx (kmn (HVd hm kd fg)) m)) := by
  unfold F_Dia_lightestDay
  refine (wh_forB (fun i => (ixO (fmx (kmn (HVd hm kd fg)) i), vlO 0 (HVd hm kd fg) (fmx (kmn (HVd hm kd fg)) i), nI i)) m (ixO (fmx (kmn (HVd hm kd fg)) m)) 400 (by omega) (fun i hi => ?_) ?_).trans rfl
  · show F_Dia_lightestDay_L7 (nI m) fg hm kd (ixO (fmx (kmn (HVd hm kd fg)) i)) (vlO 0 (HVd hm kd fg) (fmx (kmn (HVd hm kd fg)) i)) (nI i) = some (Sum.inl (ixO (fmx (kmn (HVd hm kd fg)) (i + 1)), vlO 0 (HVd hm kd fg) (fmx (kmn (HVd hm kd fg)) (i + 1)), nI (i + 1)))
    unfold F_Dia_lightestDay_L7
    rw [if_neg (nleC 8 8 (Nat.lt_of_lt_of_le hi hm8) (by omega) rfl), if_neg (nI_leN hi (by omega)), C_ham hm8 hi, Option.bind_some, C_heavy, Option.bind_some, nI_1]
    cases e : fmx (kmn (HVd hm kd fg)) i with
    | none =>
      rw [fmx_1 e]
      exact if_pos rfl
    | some b =>
      have hb := fmx_lt _ i b e
      show (if nI b = -9 then _ else _) = _
      rw [if_neg (nI_ne9 (show b < 2 ^ 31 by omega))]
      by_cases c : HVd hm kd fg b ≤ HVd hm kd fg i
      · rw [fmx_y e (decide_eq_true c)]
        exact if_pos c
      · rw [fmx_n e (fun h => c (of_decide_eq_true h))]
        exact if_neg c
  · show F_Dia_lightestDay_L7 (nI m) fg hm kd _ _ (nI m) = _
    unfold F_Dia_lightestDay_L7
    by_cases c : (8 : Int32) ≤ nI m
    · rw [if_pos c]
    · rw [if_neg c, if_pos (by rw [i32_le]; omega)]
theorem M_lday {kd fg go hm : Nat → Int32} {n m : Nat} (hn : n ≤ 8) (hm8 : m ≤ 8) (ht : ∀ j, j < n → ∃ k f, k < 6 ∧ f ≤ 9 ∧ kd j = nI k ∧ fg j = nI f ∧ go j = nI (gw k f)) (hd : ∀ j, j < m → ∃ h, h < 2 ^ n ∧ hm j = nI h) : wh (fun (s : (Int32) × (Int32) × (Int32)) => F_M_lightest_L31 (nI m) (nI n) fg hm kd s.1 s.2.1 s.2.2) 400 (((-9) : Int32), ((-9) : Int32), (0 : Int32)) = some (ixO (fmx (kmn (HVd hm kd fg)) m), vlO (-9) (HVd hm kd fg) (fmx (kmn (HVd hm kd fg)) m)) := by
  refine wh_for (fun i => (ixO (fmx (kmn (HVd hm kd fg)) i), vlO (-9) (HVd hm kd fg) (fmx (kmn (HVd hm kd fg)) i), nI i)) m _ (fun i hi => ?_) ?_ 400 (by omega)
  · show F_M_lightest_L31 (nI m) (nI n) fg hm kd (ixO (fmx (kmn (HVd hm kd fg)) i)) (vlO (-9) (HVd hm kd fg) (fmx (kmn (HVd hm kd fg)) i)) (nI i) = some (Sum.inl (ixO (fmx (kmn (HVd hm kd fg)) (i + 1)), vlO (-9) (HVd hm kd fg) (fmx (kmn (HVd hm kd fg)) (i + 1)), nI (i + 1)))
    obtain ⟨g, a1, a2⟩ := hd i hi
    have eV : F_M_allHeavy (nI n) fg kd (hm i) = some (HVd hm kd fg i) := by
      unfold HVd
      rw [a2]
      exact M_HV hn ht a1
    unfold F_M_lightest_L31 F_M_lightest_J63_12 F_M_lightest_J68_8 F_M_lightest_J81_10
    rw [if_neg (nI_leN hi (by omega)), ck_nI _ (show i < 8 by omega) (by omega), nI_clamp (show i < 2 ^ 31 by omega), eV, Option.bind_some, nI_1]
    cases e : fmx (kmn (HVd hm kd fg)) i with
    | none =>
      rw [fmx_1 e]
      rfl
    | some b =>
      have hb := fmx_lt _ i b e
      obtain ⟨s, s1, s2⟩ := HVd_n hn ht hd (show b < m by omega)
      show (if HVd hm kd fg b < 0 then _ else if HVd hm kd fg b ≤ HVd hm kd fg i then _ else _) = _
      rw [if_neg (by rw [s2]; exact nI_ge0 (by omega))]
      by_cases c : HVd hm kd fg b ≤ HVd hm kd fg i
      · rw [fmx_y e (decide_eq_true c), if_pos c]
        rfl
      · rw [fmx_n e (fun h => c (of_decide_eq_true h)), if_neg c]
        rfl
  · show F_M_lightest_L31 (nI m) (nI n) fg hm kd _ _ (nI m) = _
    unfold F_M_lightest_L31
    rw [if_pos (by rw [i32_le]; omega)]
theorem P_lightest {hk : Int32} {th : Int32} {dy : Int32} {dn : Int32} {wt : Nat → Int32} {kd : Nat → Int32} {fg : Nat → Int32} {go : Nat → Int32} {hm : Nat → Int32} {wi : Nat → Int32} {lf : Nat → Int32} {kth : Int32} {kdy : Int32} {kdn : Int32} {kwt : Nat → Int32} {kkd : Nat → Int32} {kfg : Nat → Int32} {kgo : Nat → Int32} {khm : Nat → Int32} {kwi : Nat → Int32} {klf : Nat → Int32} {sc : Int32} {sg : Nat → Nat} {sp : Nat → Int32} {sl : Nat → Int32} {sb : Nat → Int32} {sf : Nat → Int32} {sd : Nat → Int32} {lc : Int32} {lt : Nat → Int32} {nc : Int32} {nu : Nat → Int32} {rf : Nat → Int32} {im : Nat → Int32} {tu : Nat → Int32} (hI : Inv th dy dn wt kd fg go hm wi lf hk kth kdy kdn kwt kkd kfg kgo khm kwi klf im sc sg sp sl sb sf sd tu lt lc nu nc) (x1 : Int32) : ∃ (r : Int32) (rf' : Nat → Int32) (m_thrown' : Int32), F_H_lightest dy fg hm kd rf x1 = some (r, rf') ∧ F_M_lightest dy th fg hm kd rf x1 = some (r, m_thrown', rf') := by
  obtain ⟨⟨n, m, q, hn, hm8, hq, rfl, rfl, rfl, hw, ht, hd, hf⟩, -⟩ := hI
  rcases inR x1 2 (by omega) with ⟨v, hv2, rfl⟩ | h
  · have eJ : F_H_lightest (nI m) fg hm kd rf (nI v) = F_H_lightest_J16_2 (nI m) fg hm kd rf (nI v) := by
      unfold F_H_lightest
      rcases (show v = 0 ∨ v = 1 by omega) with rfl | rfl <;> rfl
    rw [eJ]
    unfold F_H_lightest_J16_2 F_M_lightest
    rw [C_lday hm8, Option.bind_some, M_in0_y 2 1 hv2 (by omega) (by decide +kernel), Option.bind_some, if_neg (show ¬ (1 : Int32) = 0 by decide), M_lday hn hm8 ht hd, Option.bind_some]
    rcases (show v = 0 ∨ v = 1 by omega) with rfl | rfl
    · exact ⟨_, rf, 0, rfl, rfl⟩
    · rw [if_neg (show ¬ nI 1 = 0 by decide), if_neg (show ¬ nI 1 = 0 by decide)]
      cases e : fmx (kmn (HVd hm kd fg)) m with
      | none => exact ⟨-9, rf, 0, rfl, rfl⟩
      | some b =>
        have hb := fmx_lt _ m b e
        refine ⟨HVd hm kd fg b, rf, 0, ?_, rfl⟩
        show (if (0 : Int32) ≤ nI b then (F_Sta_hamperOf (nI m) hm (nI b)).bind _ else _) = _
        rw [if_pos (show (0 : Int32) ≤ nI b by rw [i32_le, nI_toInt (by omega), Int32.toInt_zero]; omega), C_ham hm8 hb, Option.bind_some, C_heavy]
        rfl
  · refine ⟨-2, rfx rf 2, 0, ?_, ?_⟩
    · unfold F_H_lightest
      rw [if_neg (outC h 0 0 (by omega) (by omega) rfl), if_neg (outC h 1 1 (by omega) (by omega) rfl)]
      rfl
    · unfold F_M_lightest
      rw [M_in0_n 2 1 h (by omega) (by omega) (by decide +kernel)]
      rfl
