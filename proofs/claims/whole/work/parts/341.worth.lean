-- worth
theorem C_great (wt : Nat → Int32) (x : Int32) : F_Sta_greatestOf wt x = some (lks wt x 6).2 := by
  unfold F_Sta_greatestOf
  refine (wh_forB (fun i => ((lks wt x i).2, nI i)) 6 (lks wt x 6).2 400 (by omega) (fun i hi => ?_) ?_).trans rfl
  · show F_Sta_greatestOf_L4 wt x (lks wt x i).2 (nI i) = _
    unfold F_Sta_greatestOf_L4
    rw [if_neg (nleC 6 6 hi (by omega) rfl), holds_bt x (by omega), nI_1]
    show (if (if bt x i then (1 : Int32) else 0) = 0 then _ else ck (nI i) 6 _) = _
    rw [ck_nI _ hi (by omega), nI_clamp (by omega)]
    show _ = some (Sum.inl ((lks wt x (i + 1)).2, nI (i + 1)))
    cases hb : bt x i
    · rw [lks_n hb]; rfl
    · rw [if_neg (show ¬ (if true = true then (1 : Int32) else 0) = 0 by decide)]
      by_cases c : wt i ≤ (lks wt x i).2
      · rw [if_neg (show ¬ (lks wt x i).2 < wt i by rw [i32_lt]; rw [i32_le] at c; omega), lks_le c]
      · rw [if_pos (show (lks wt x i).2 < wt i by rw [i32_lt]; rw [i32_le] at c; omega), lks_y hb c]
  · show F_Sta_greatestOf_L4 wt x _ (nI 6) = _
    unfold F_Sta_greatestOf_L4
    rw [if_pos (by decide +kernel)]
theorem lks_at {wt : Nat → Int32} (hw : ∀ j, j < 6 → ∃ x, x ≤ 9 ∧ wt j = nI x) (x : Int32) : ∀ t, t ≤ 6 → ((lks wt x t).1 = -9 ∧ (lks wt x t).2 = 0 ∧ wsm wt x t = 0) ∨ ∃ j a, j < t ∧ bt x j = true ∧ (lks wt x t).1 = nI j ∧ (lks wt x t).2 = nI a ∧ wt j = nI a ∧ 1 ≤ a ∧ a ≤ 9
  | 0, _ => Or.inl ⟨rfl, rfl, rfl⟩
  | t + 1, ht => by
    obtain ⟨a, ha, ea⟩ := hw t (by omega)
    cases hb : bt x t
    · rw [lks_n hb, wsm_n hb]
      rcases lks_at hw x t (by omega) with h | ⟨j, b, h1, h2⟩
      · exact Or.inl h
      · exact Or.inr ⟨j, b, by omega, h2⟩
    · by_cases c : wt t ≤ (lks wt x t).2
      · rw [lks_le c, wsm_y hb]
        rcases lks_at hw x t (by omega) with ⟨h1, h2, h3⟩ | ⟨j, b, h1, h2⟩
        · rw [h2, ea, i32_le, nI_toInt (by omega), Int32.toInt_zero] at c
          have a0 : a = 0 := by omega
          subst a0
          exact Or.inl ⟨h1, h2, by rw [h3, ea]; rfl⟩
        · exact Or.inr ⟨j, b, by omega, h2⟩
      · rw [lks_y hb c]
        refine Or.inr ⟨t, a, by omega, hb, rfl, ea, ea, ?_, ha⟩
        rcases lks_at hw x t (by omega) with ⟨h1, h2, h3⟩ | ⟨j, b, h1, h2, h3, h4, -, h5, h6⟩
        · rw [h2, ea, i32_le, nI_toInt (by omega), Int32.toInt_zero] at c
          omega
        · rw [h4, ea, i32_le, nI_toInt (by omega)] at c
          by_cases a0 : a = 0
          · subst a0
            exfalso
            apply c
            rw [nI_toInt (by omega)]
            omega
          · omega
theorem fracZ {v : Nat} (hv : v < 2) {T : Int64} (h : lg_cmp T 0 ≤ 0) (B : Int64) : F_Frc_become T B = some (0, 1) ∧ F_Frc_told 0 1 (nI v) = some (Int32.toInt64 (nI v)) := by
  constructor
  · unfold F_Frc_become
    rw [if_pos h]
  · rcases (show v = 0 ∨ v = 1 by omega) with rfl | rfl <;> rfl
theorem bt_63 {j : Nat} (hj : j < 6) : bt 63 j = true := by
  rcases (show j = 0 ∨ j = 1 ∨ j = 2 ∨ j = 3 ∨ j = 4 ∨ j = 5 by omega) with rfl | rfl | rfl | rfl | rfl | rfl <;> decide +kernel
theorem lg_p0 {T : Int64} : (0 : Int32) < lg_cmp T 0 ↔ ¬ lg_cmp T 0 ≤ 0 := by
  rw [i32_lt, i32_le]
  omega
theorem P_worth {hk : Int32} {th : Int32} {dy : Int32} {dn : Int32} {wt : Nat → Int32} {kd : Nat → Int32} {fg : Nat → Int32} {go : Nat → Int32} {hm : Nat → Int32} {wi : Nat → Int32} {lf : Nat → Int32} {kth : Int32} {kdy : Int32} {kdn : Int32} {kwt : Nat → Int32} {kkd : Nat → Int32} {kfg : Nat → Int32} {kgo : Nat → Int32} {khm : Nat → Int32} {kwi : Nat → Int32} {klf : Nat → Int32} {sc : Int32} {sg : Nat → Nat} {sp : Nat → Int32} {sl : Nat → Int32} {sb : Nat → Int32} {sf : Nat → Int32} {sd : Nat → Int32} {lc : Int32} {lt : Nat → Int32} {nc : Int32} {nu : Nat → Int32} {f_above : Int64} {f_below : Int64} {rf : Nat → Int32} {im : Nat → Int32} {tu : Nat → Int32} (hI : Inv th dy dn wt kd fg go hm wi lf hk kth kdy kdn kwt kkd kfg kgo khm kwi klf im sc sg sp sl sb sf sd tu lt lc nu nc) (x1 : Int32) (x2 : Int32) : ∃ (r : Int64) (f_above' : Int64) (f_below' : Int64) (rf' : Nat → Int32) (m_thrown' : Int32), F_H_worth f_above f_below dy go hm wt rf x1 x2 = some (r, f_above', f_below', rf') ∧ F_M_worth dy th fg hm kd rf wt x1 x2 = some (r, m_thrown', rf') := by
  obtain ⟨⟨n, m, q, hn, hm8, hq, rfl, rfl, rfl, hw, ht, hd, hf⟩, -⟩ := hI
  rcases inR x1 m (by omega) with ⟨d, hdm, rfl⟩ | h
  · rcases inR x2 2 (by omega) with ⟨v, hv, rfl⟩ | h
    · have c1 : F_M_wrongBit 0 (nI v) 1 = some 0 := by
        unfold F_M_wrongBit
        rw [if_pos rfl, M_in0_y 2 (Int32.toInt64 1) hv (by omega) (by decide +kernel)]
        rfl
      obtain ⟨g, a1, a2⟩ := hd d hdm
      obtain ⟨W, hW⟩ : ∃ W, W = CB go (nI g) := ⟨_, rfl⟩
      have eC : F_Sta_couldBe go (nI g) = some W := by
        rw [hW]
        exact C_could go (nI g)
      have eH : ∀ fr : Int64 × Int64, ∀ r, F_Frc_become ((Int32.toInt64 (lks wt W 6).2 * Int32.toInt64 (wsm wt 63 6)) - (Int32.toInt64 (lks wt 63 6).2 * Int32.toInt64 (wsm wt W 6))) (Int32.toInt64 (wsm wt W 6) * Int32.toInt64 (wsm wt 63 6)) = some fr → F_Frc_told fr.1 fr.2 (nI v) = some r → F_H_worth f_above f_below (nI m) go hm wt rf (nI d) (nI v) = some (r, fr.1, fr.2, rf) := by
        intro fr r h1 h2
        unfold F_H_worth
        rw [hasD_y hdm hm8, Option.bind_some, if_neg (by decide), isP_y hv, Option.bind_some, if_neg (by decide), ck_nI _ (show d < 8 by omega) (by omega), nI_clamp (show d < 2 ^ 31 by omega), a2, eC, Option.bind_some, C_great, Option.bind_some, C_wsum, Option.bind_some, C_great, Option.bind_some, C_wsum, Option.bind_some, h1, Option.bind_some, h2, Option.bind_some]
      have eM : ∀ (z : Option (Int64 × Int32 × (Nat → Int32))), F_M_worth (nI m) (nI n) fg hm kd rf wt (nI d) (nI v) = z → z = (if (0 : Int32) ≤ (lks wt W 6).1 then (F_M_likeliest wt 63).bind (fun q_10 => (ck q_10 6 (ck (lks wt W 6).1 6 ((F_M_weightOf wt (63 : Int32)).bind (fun q_13 => ((F_M_weightOf wt W).bind (fun q_14 => ((F_M_weightOf wt W).bind (fun q_15 => ((F_M_weightOf wt (63 : Int32)).bind (fun q_16 => (if (0 : Int32) < (lg_cmp (((Int32.toInt64 (wt (Int32.toNatClampNeg (lks wt W 6).1))) * (Int32.toInt64 q_13)) - ((Int32.toInt64 (wt (Int32.toNatClampNeg q_10))) * (Int32.toInt64 q_14))) 0) then ((F_M_partOf (((Int32.toInt64 (wt (Int32.toNatClampNeg (lks wt W 6).1))) * (Int32.toInt64 q_13)) - ((Int32.toInt64 (wt (Int32.toNatClampNeg q_10))) * (Int32.toInt64 q_14))) ((Int32.toInt64 q_15) * (Int32.toInt64 q_16)) (nI v)).bind (fun q_18 => (some (q_18, 0, rf)))) else (some ((Int32.toInt64 (nI v)), 0, rf)))))))))))))) else (some ((Int32.toInt64 (nI v)), 0, rf))) := by
        intro z hz
        rw [← hz]
        unfold F_M_worth F_M_worth_J18_3
        rw [isD_y hdm hm8, Option.bind_some, if_neg (by decide), c1, Option.bind_some, if_pos (by decide), ck_nI _ (show d < 8 by omega) (by omega), nI_clamp (show d < 2 ^ 31 by omega), a2, M_CB hn ht a1, Option.bind_some, ← hW, M_likely, Option.bind_some]
      rcases lks_at hw W 6 (by omega) with ⟨h1, h2, h3⟩ | ⟨j, a, hj, hb, h1, h2, h3, h4, h5⟩
      · have e0 : lg_cmp ((Int32.toInt64 (lks wt W 6).2 * Int32.toInt64 (wsm wt 63 6)) - (Int32.toInt64 (lks wt 63 6).2 * Int32.toInt64 (wsm wt W 6))) 0 ≤ 0 := by
          rw [h2, h3, show Int32.toInt64 0 = (0 : Int64) from rfl, Int64.zero_mul, Int64.mul_zero, Int64.sub_self]
          decide +kernel
        obtain ⟨f1, f2⟩ := fracZ hv e0 (Int32.toInt64 (wsm wt W 6) * Int32.toInt64 (wsm wt 63 6))
        refine ⟨Int32.toInt64 (nI v), 0, 1, rf, 0, eH (0, 1) _ f1 f2, ?_⟩
        rw [eM _ rfl, h1, if_neg (by decide)]
      · rcases lks_at hw 63 6 (by omega) with ⟨k1, k2, k3⟩ | ⟨j2, b, hj2, hb2, k1, k2, k3, k4, k5⟩
        · obtain ⟨s, s1, s2, s3⟩ := wsm_ge hw (bt_63 hj) h5 h3 6 hj (by omega)
          rw [k3] at s3
          have := congrArg Int32.toInt s3
          rw [nI_toInt (by omega), Int32.toInt_zero] at this
          omega
        · obtain ⟨s, s1, s2, s3⟩ := wsm_ge hw hb h5 h3 6 hj (by omega)
          obtain ⟨t, t1, t2, t3⟩ := wsm_ge hw hb2 k5 k3 6 hj2 (by omega)
          have eT : (Int32.toInt64 (lks wt W 6).2 * Int32.toInt64 (wsm wt 63 6)) - (Int32.toInt64 (lks wt 63 6).2 * Int32.toInt64 (wsm wt W 6)) = lQ (a * t) - lQ (b * s) := by
            rw [h2, k2, s3, t3, lQ_of (by omega), lQ_of (by omega), lQ_of (by omega), lQ_of (by omega), lQ_mul, lQ_mul]
          have eB : Int32.toInt64 (wsm wt W 6) * Int32.toInt64 (wsm wt 63 6) = lQ (s * t) := by
            rw [s3, t3, lQ_of (by omega), lQ_of (by omega), lQ_mul]
          have eM2 := eM _ rfl
          have eL : F_M_likeliest wt 63 = some (nI j2) := by rw [M_likely, k1]
          rw [h1, eL, if_pos (show (0 : Int32) ≤ nI j by rw [i32_le, nI_toInt (by omega), Int32.toInt_zero]; omega), Option.bind_some, ck_nI _ hj2 (by omega), ck_nI _ hj (by omega), M_wsum, Option.bind_some, M_wsum, Option.bind_some, Option.bind_some, Option.bind_some, nI_clamp (show j < 2 ^ 31 by omega), nI_clamp (show j2 < 2 ^ 31 by omega), h3, k3, ← h2, ← k2, eT, eB] at eM2
          rw [eT, eB] at eH
          have a54 : a * t ≤ 9 * 54 := Nat.mul_le_mul h5 t1
          have b54 : b * s ≤ 9 * 54 := Nat.mul_le_mul k5 s1
          have st54 : s * t ≤ 54 * 54 := Nat.mul_le_mul s1 t1
          by_cases c : b * s < a * t
          · have eS : lQ (a * t) - lQ (b * s) = lQ (a * t - b * s) := lQ_sub (by omega)
            rw [eS] at eH eM2
            have st0 : s * t = 0 → a * t - b * s = 0 := by
              intro h0
              have := Nat.mul_le_mul s2 t2
              have := Nat.mul_le_mul h4 k4
              omega
            obtain ⟨fr, r, r1, r2, r3⟩ := fracL hv (show a * t - b * s < 2 ^ 62 by omega) (show s * t < 2 ^ 62 by omega) st0
            refine ⟨r, fr.1, fr.2, rf, 0, eH fr r r1 r2, ?_⟩
            rw [eM2, if_pos (lg_p0.mpr (lQ_pos (by omega) (by omega))), r3]
            rfl
          · have e0 : lg_cmp (lQ (a * t) - lQ (b * s)) 0 ≤ 0 := by
              rw [lg_cmp_le, Int64.le_iff_toInt_le, Int64.toInt_sub, lQ_toInt (by omega), lQ_toInt (by omega), show (0 : Int64).toInt = 0 by decide +kernel]
              generalize a * t = x at *
              generalize b * s = y at *
              rw [Int.bmod_eq_of_le (by omega) (by omega)]
              omega
            obtain ⟨f1, f2⟩ := fracZ hv e0 (lQ (s * t))
            refine ⟨Int32.toInt64 (nI v), 0, 1, rf, 0, eH (0, 1) _ f1 f2, ?_⟩
            rw [eM2, if_neg (fun h => lg_p0.mp h e0)]
    · refine ⟨(4000000000000000000 : Int64) - Int32.toInt64 (-2), f_above, f_below, rfx rf 2, 0, ?_, ?_⟩
      · unfold F_H_worth
        rw [hasD_y hdm hm8, Option.bind_some, if_neg (by decide), isP_n h]
        rfl
      · have c1 : F_M_wrongBit 0 x2 1 = some (-2) := by
          unfold F_M_wrongBit
          rw [if_pos rfl, M_in0_n 2 (Int32.toInt64 1) h (by omega) (by omega) (by decide +kernel)]
          rfl
        unfold F_M_worth F_M_worth_J18_3
        rw [isD_y hdm hm8, Option.bind_some, if_neg (by decide), c1]
        rfl
  · refine ⟨(4000000000000000000 : Int64) - Int32.toInt64 (-1), f_above, f_below, rfx rf 1, 0, ?_, ?_⟩
    · unfold F_H_worth; rw [hasD_n h]; rfl
    · unfold F_M_worth F_M_worth_J18_3
      rw [isD_n h hm8, Option.bind_some, if_pos rfl]
      rfl
