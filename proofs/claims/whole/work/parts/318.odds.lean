theorem P_odds {hk : Int32} {th : Int32} {dy : Int32} {dn : Int32} {wt : Nat → Int32} {kd : Nat → Int32} {fg : Nat → Int32} {go : Nat → Int32} {hm : Nat → Int32} {wi : Nat → Int32} {lf : Nat → Int32} {kth : Int32} {kdy : Int32} {kdn : Int32} {kwt : Nat → Int32} {kkd : Nat → Int32} {kfg : Nat → Int32} {kgo : Nat → Int32} {khm : Nat → Int32} {kwi : Nat → Int32} {klf : Nat → Int32} {sc : Int32} {sg : Nat → Nat} {sp : Nat → Int32} {sl : Nat → Int32} {sb : Nat → Int32} {sf : Nat → Int32} {sd : Nat → Int32} {lc : Int32} {lt : Nat → Int32} {nc : Int32} {nu : Nat → Int32} {f_above : Int64} {f_below : Int64} {rf : Nat → Int32} {im : Nat → Int32} {tu : Nat → Int32} (hI : Inv th dy dn wt kd fg go hm wi lf hk kth kdy kdn kwt kkd kfg kgo khm kwi klf im sc sg sp sl sb sf sd tu lt lc nu nc) (x1 : Int32) (x2 : Int32) (x3 : Int32) : ∃ (r : Int64) (f_above' : Int64) (f_below' : Int64) (rf' : Nat → Int32) (m_thrown' : Int32), F_H_odds f_above f_below dy go hm wt rf x1 x2 x3 = some (r, f_above', f_below', rf') ∧ F_M_odds dy th fg hm kd rf wt x1 x2 x3 = some (r, m_thrown', rf') := by
  obtain ⟨⟨n, m, q, hn, hm8, hq, rfl, rfl, rfl, hw, ht, hd, hf⟩, -⟩ := hI
  have eJ : ∀ (z x1 x2 x3 : Int32), ¬ z = 0 → z = -1 → F_M_odds_J30_3 (nI n) fg hm kd rf wt x1 x2 x3 z = some ((4000000000000000000 : Int64) - Int32.toInt64 (-1), 0, rfx rf 1) := by
    intro z x1 x2 x3 h0 h1
    subst h1
    rfl
  rcases inR x1 m (by omega) with ⟨d, hdm, rfl⟩ | h
  · rcases inR x2 6 (by omega) with ⟨w, hw6, rfl⟩ | h
    · have c0 := M_in0_y 6 5 hw6 (by omega) (by decide +kernel)
      rcases inR x3 2 (by omega) with ⟨v, hv2, rfl⟩ | h
      · have c1 : F_M_wrongBit 0 (nI v) 1 = some 0 := by
          unfold F_M_wrongBit
          rw [if_pos rfl, M_in0_y 2 (Int32.toInt64 1) hv2 (by omega) (by decide +kernel)]
          rfl
        obtain ⟨g, a1, a2⟩ := hd d hdm
        obtain ⟨aw, aw9, eaw⟩ := hw w hw6
        have fin : ∃ a b, a ≤ 9 ∧ b ≤ 54 ∧ a ≤ b ∧ wsm wt (CB go (nI g)) 6 = nI b ∧ (if bt (CB go (nI g)) w = true then wt w else 0) = nI a := by
          cases hb : bt (CB go (nI g)) w
          · obtain ⟨s, s1, s2⟩ := wsm_nI hw (CB go (nI g)) 6 (by omega)
            exact ⟨0, s, by omega, by omega, by omega, s2, rfl⟩
          · obtain ⟨s, s1, s2, s3⟩ := wsm_ge hw hb aw9 eaw 6 hw6 (by omega)
            exact ⟨aw, s, aw9, by omega, s2, s3, eaw⟩
        obtain ⟨a, b, ha, hb, hab, eb, ea⟩ := fin
        obtain ⟨fr, r, r1, r2, r3⟩ := frac hv2 ha hb hab
        refine ⟨r, fr.1, fr.2, rf, 0, ?_, ?_⟩
        · unfold F_H_odds F_H_odds_J77_13
          rw [hasD_y hdm hm8, Option.bind_some, if_neg (by decide), isW_y hw6, Option.bind_some, if_neg (by decide), isP_y hv2, Option.bind_some, if_neg (by decide), ck_nI _ (show d < 8 by omega) (by omega), nI_clamp (show d < 2 ^ 31 by omega), a2, C_could, Option.bind_some, holds_bt _ (show w < 31 by omega), Option.bind_some]
          show (if (if bt (CB go (nI g)) w = true then (1 : Int32) else 0) = 0 then (F_Sta_weightOfAll wt (CB go (nI g))).bind _ else (F_Sta_weightOf wt (nI w)).bind (fun q_17 => (F_Sta_weightOfAll wt (CB go (nI g))).bind _)) = _
          have eW : F_Sta_weightOf wt (nI w) = some (wt w) := by
            unfold F_Sta_weightOf
            rw [isW_y hw6, Option.bind_some, if_neg (by decide), ck_nI _ hw6 (by omega), nI_clamp (show w < 2 ^ 31 by omega)]
          rw [eW, C_wsum, Option.bind_some, Option.bind_some, Option.bind_some, eb]
          cases hb : bt (CB go (nI g)) w
          · rw [hb] at ea
            have ea' : (0 : Int32) = nI a := ea
            rw [if_pos (by decide), ea', r1, Option.bind_some, r2]
            rfl
          · rw [hb] at ea
            have ea' : wt w = nI a := ea
            rw [if_neg (by decide), ea', r1, Option.bind_some, r2]
            rfl
        · unfold F_M_odds F_M_odds_J30_3 F_M_odds_J86_10
          rw [isD_y hdm hm8, Option.bind_some, if_neg (by decide), c0, Option.bind_some, if_neg (by decide), c1, Option.bind_some, if_pos (by decide), ck_nI _ (show d < 8 by omega) (by omega), nI_clamp (show d < 2 ^ 31 by omega), a2, M_CB hn ht a1, Option.bind_some, hasBit_bt, Option.bind_some, ck_nI _ hw6 (by omega), nI_clamp (show w < 2 ^ 31 by omega), M_wsum, Option.bind_some, Option.bind_some, eb]
          cases hb : bt (CB go (nI g)) w
          · rw [hb] at ea
            have ea' : (0 : Int32) = nI a := ea
            rw [if_pos (by decide), show (0 : Int64) = Int32.toInt64 (nI a) by rw [← ea']; rfl, r3]
            rfl
          · rw [hb] at ea
            have ea' : wt w = nI a := ea
            rw [if_neg (by decide), ea', r3]
            rfl
      · refine ⟨(4000000000000000000 : Int64) - Int32.toInt64 (-2), f_above, f_below, rfx rf 2, 0, ?_, ?_⟩
        rotate_left
        · have c1 : F_M_wrongBit 0 x3 1 = some (-2) := by
            unfold F_M_wrongBit
            rw [if_pos rfl, M_in0_n 2 (Int32.toInt64 1) h (by omega) (by omega) (by decide +kernel)]
            rfl
          unfold F_M_odds F_M_odds_J30_3
          rw [isD_y hdm hm8, Option.bind_some, if_neg (by decide), c0, Option.bind_some, if_neg (by decide), c1]
          rfl
        · unfold F_H_odds
          rw [hasD_y hdm hm8, Option.bind_some, if_neg (by decide), isW_y hw6, Option.bind_some, if_neg (by decide), isP_n h]
          rfl
    · refine ⟨(4000000000000000000 : Int64) - Int32.toInt64 (-1), f_above, f_below, rfx rf 1, 0, ?_, ?_⟩
      · unfold F_H_odds; rw [hasD_y hdm hm8, Option.bind_some, if_neg (by decide), isW_n h]; rfl
      · unfold F_M_odds F_M_odds_J29_15
        rw [isD_y hdm hm8, Option.bind_some, if_neg (by decide), M_in0_n 6 5 h (by omega) (by omega) (by decide +kernel), Option.bind_some, if_pos rfl]
        exact eJ _ _ _ _ (by decide) rfl
  · refine ⟨(4000000000000000000 : Int64) - Int32.toInt64 (-1), f_above, f_below, rfx rf 1, 0, ?_, ?_⟩
    · unfold F_H_odds; rw [hasD_n h]; rfl
    · unfold F_M_odds F_M_odds_J29_15
      rw [isD_n h hm8, Option.bind_some, if_pos rfl]
      exact eJ _ _ _ _ (by decide) rfl
