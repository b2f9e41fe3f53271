-- PAIRS that need no loop
theorem P_clear {hk : Int32} {th : Int32} {dy : Int32} {dn : Int32} {wt : Nat → Int32} {kd : Nat → Int32} {fg : Nat → Int32} {go : Nat → Int32} {hm : Nat → Int32} {wi : Nat → Int32} {lf : Nat → Int32} {kth : Int32} {kdy : Int32} {kdn : Int32} {kwt : Nat → Int32} {kkd : Nat → Int32} {kfg : Nat → Int32} {kgo : Nat → Int32} {khm : Nat → Int32} {kwi : Nat → Int32} {klf : Nat → Int32} {sc : Int32} {sg : Nat → Nat} {sp : Nat → Int32} {sl : Nat → Int32} {sb : Nat → Int32} {sf : Nat → Int32} {sd : Nat → Int32} {lc : Int32} {lt : Nat → Int32} {nc : Int32} {nu : Nat → Int32} {im : Nat → Int32} {tu : Nat → Int32} (hI : Inv th dy dn wt kd fg go hm wi lf hk kth kdy kdn kwt kkd kfg kgo khm kwi klf im sc sg sp sl sb sf sd tu lt lc nu nc) : ∃ (r : Int32) (nc' : Int32) (m_thrown' : Int32), F_H_clear nc = some (r, nc') ∧ F_M_clear nc = some (r, nc', m_thrown') ∧ Inv th dy dn wt kd fg go hm wi lf hk kth kdy kdn kwt kkd kfg kgo khm kwi klf im sc sg sp sl sb sf sd tu lt lc nu nc' := by
  exact ⟨_, _, _, rfl, rfl, hI.1, hI.2.1, hI.2.2.1, hI.2.2.2.1, ⟨0, by omega, rfl, fun j hj => absurd hj (by omega)⟩⟩
theorem P_weight {hk : Int32} {th : Int32} {dy : Int32} {dn : Int32} {wt : Nat → Int32} {kd : Nat → Int32} {fg : Nat → Int32} {go : Nat → Int32} {hm : Nat → Int32} {wi : Nat → Int32} {lf : Nat → Int32} {kth : Int32} {kdy : Int32} {kdn : Int32} {kwt : Nat → Int32} {kkd : Nat → Int32} {kfg : Nat → Int32} {kgo : Nat → Int32} {khm : Nat → Int32} {kwi : Nat → Int32} {klf : Nat → Int32} {sc : Int32} {sg : Nat → Nat} {sp : Nat → Int32} {sl : Nat → Int32} {sb : Nat → Int32} {sf : Nat → Int32} {sd : Nat → Int32} {lc : Int32} {lt : Nat → Int32} {nc : Int32} {nu : Nat → Int32} {rf : Nat → Int32} {im : Nat → Int32} {tu : Nat → Int32} (hI : Inv th dy dn wt kd fg go hm wi lf hk kth kdy kdn kwt kkd kfg kgo khm kwi klf im sc sg sp sl sb sf sd tu lt lc nu nc) (x1 : Int32) : ∃ (r : Int32) (rf' : Nat → Int32) (m_thrown' : Int32), F_H_weight wt rf x1 = some (r, rf') ∧ F_M_weight rf wt x1 = some (r, m_thrown', rf') := by
  rcases inR x1 6 (by omega) with ⟨d, hd, rfl⟩ | h
  · refine ⟨wt d, rf, 0, ?_, ?_⟩
    · unfold F_H_weight
      rw [isW_y hd]
      show ck (nI d) 6 _ = _
      rw [ck_nI _ hd (by omega), nI_clamp (by omega)]
    · unfold F_M_weight
      rw [M_in0_y 6 5 hd (by omega) (by decide +kernel)]
      show ck (nI d) 6 _ = _
      rw [ck_nI _ hd (by omega), nI_clamp (by omega)]
  · refine ⟨-1, rfx rf 1, 0, ?_, ?_⟩
    · unfold F_H_weight
      rw [isW_n h]
      rfl
    · unfold F_M_weight
      rw [M_in0_n 6 5 h (by omega) (by omega) (by decide +kernel)]
      rfl
theorem P_feed {hk : Int32} {th : Int32} {dy : Int32} {dn : Int32} {wt : Nat → Int32} {kd : Nat → Int32} {fg : Nat → Int32} {go : Nat → Int32} {hm : Nat → Int32} {wi : Nat → Int32} {lf : Nat → Int32} {kth : Int32} {kdy : Int32} {kdn : Int32} {kwt : Nat → Int32} {kkd : Nat → Int32} {kfg : Nat → Int32} {kgo : Nat → Int32} {khm : Nat → Int32} {kwi : Nat → Int32} {klf : Nat → Int32} {sc : Int32} {sg : Nat → Nat} {sp : Nat → Int32} {sl : Nat → Int32} {sb : Nat → Int32} {sf : Nat → Int32} {sd : Nat → Int32} {lc : Int32} {lt : Nat → Int32} {nc : Int32} {nu : Nat → Int32} {rf : Nat → Int32} {im : Nat → Int32} {tu : Nat → Int32} (hI : Inv th dy dn wt kd fg go hm wi lf hk kth kdy kdn kwt kkd kfg kgo khm kwi klf im sc sg sp sl sb sf sd tu lt lc nu nc) (x1 : Int32) : ∃ (r : Int32) (lc' : Int32) (lt' : Nat → Int32) (rf' : Nat → Int32) (m_thrown' : Int32), F_H_feed lc lt rf x1 = some (r, lc', lt', rf') ∧ F_M_feed lc lt rf x1 = some (r, lc', m_thrown', lt', rf') ∧ Inv th dy dn wt kd fg go hm wi lf hk kth kdy kdn kwt kkd kfg kgo khm kwi klf im sc sg sp sl sb sf sd tu lt' lc' nu nc := by
  obtain ⟨i1, i2, i3, ⟨k, hk, rfl, hl⟩, i5⟩ := hI
  by_cases c0 : 0 ≤ x1
  · by_cases c1 : 255 < x1
    · refine ⟨-6, nI k, lt, rfx rf 6, 0, ?_, ?_, i1, i2, i3, ⟨k, hk, rfl, hl⟩, i5⟩
      · unfold F_H_feed; rw [if_pos c0, if_pos c1]; rfl
      · unfold F_M_feed; rw [if_pos c0, if_pos c1]; rfl
    · by_cases c2 : k = 96
      · subst c2
        refine ⟨-6, nI 96, lt, rfx rf 6, 0, ?_, ?_, i1, i2, i3, ⟨96, hk, rfl, hl⟩, i5⟩
        · unfold F_H_feed; rw [if_pos c0, if_neg c1, if_neg (by decide +kernel)]; rfl
        · unfold F_M_feed; rw [if_pos c0, if_neg c1, if_pos (by decide +kernel)]; rfl
      · have hk2 : k < 96 := by omega
        refine ⟨nI (k + 1), nI (k + 1), upd lt k x1, rf, 0, ?_, ?_, i1, i2, i3, ⟨k + 1, by omega, rfl, fun j hj => ?_⟩, i5⟩
        · unfold F_H_feed F_Let_append
          rw [if_pos c0, if_neg c1, if_pos (ltC 96 96 hk2 (by omega) rfl), if_neg (nleC 96 96 hk2 (by omega) rfl), ck_nI _ hk2 (by omega), nI_clamp (by omega), nI_1]
          rfl
        · unfold F_M_feed
          rw [if_pos c0, if_neg c1, if_neg (neC 96 96 c2 (by omega) (by omega) rfl), ck_nI _ hk2 (by omega), nI_clamp (by omega), nI_1]
        · by_cases e : j = k
          · subst e
            rw [i32_le, Int32.toInt_zero] at c0
            rw [i32_lt] at c1
            have c1 : ¬ (255 : Int) < x1.toInt := c1
            refine ⟨x1.toInt.toNat, by omega, ?_⟩
            apply Int32.toInt_inj.mp
            rw [nI_toInt (by omega)]
            show ((if j = j then x1 else lt j) : Int32).toInt = _
            rw [if_pos rfl]
            omega
          · obtain ⟨x, h1, h2⟩ := hl j (by omega)
            exact ⟨x, h1, by show (if j = k then x1 else lt j) = _; rw [if_neg e]; exact h2⟩
  · refine ⟨-4, nI k, lt, rfx rf 4, 0, ?_, ?_, i1, i2, i3, ⟨k, hk, rfl, hl⟩, i5⟩
    · unfold F_H_feed; rw [if_neg c0]; rfl
    · unfold F_M_feed; rw [if_neg c0]; rfl
theorem P_row {hk : Int32} {th : Int32} {dy : Int32} {dn : Int32} {wt : Nat → Int32} {kd : Nat → Int32} {fg : Nat → Int32} {go : Nat → Int32} {hm : Nat → Int32} {wi : Nat → Int32} {lf : Nat → Int32} {kth : Int32} {kdy : Int32} {kdn : Int32} {kwt : Nat → Int32} {kkd : Nat → Int32} {kfg : Nat → Int32} {kgo : Nat → Int32} {khm : Nat → Int32} {kwi : Nat → Int32} {klf : Nat → Int32} {sc : Int32} {sg : Nat → Nat} {sp : Nat → Int32} {sl : Nat → Int32} {sb : Nat → Int32} {sf : Nat → Int32} {sd : Nat → Int32} {lc : Int32} {lt : Nat → Int32} {nc : Int32} {nu : Nat → Int32} {rf : Nat → Int32} {im : Nat → Int32} {tu : Nat → Int32} (hI : Inv th dy dn wt kd fg go hm wi lf hk kth kdy kdn kwt kkd kfg kgo khm kwi klf im sc sg sp sl sb sf sd tu lt lc nu nc) (x1 : Int32) : ∃ (r : Int32) (nc' : Int32) (nu' : Nat → Int32) (rf' : Nat → Int32) (m_thrown' : Int32), F_H_row nc nu rf x1 = some (r, nc', nu', rf') ∧ F_M_row nc rf nu x1 = some (r, nc', m_thrown', rf', nu') ∧ Inv th dy dn wt kd fg go hm wi lf hk kth kdy kdn kwt kkd kfg kgo khm kwi klf im sc sg sp sl sb sf sd tu lt lc nu' nc' := by
  obtain ⟨i1, i2, i3, i5, ⟨k, hk, rfl, hl⟩⟩ := hI
  by_cases c0 : 0 ≤ x1
  · by_cases c1 : 99 < x1
    · refine ⟨-6, nI k, nu, rfx rf 6, 0, ?_, ?_, i1, i2, i3, i5, ⟨k, hk, rfl, hl⟩⟩
      · unfold F_H_row; rw [if_pos c0, if_pos c1]; rfl
      · unfold F_M_row; rw [if_pos c0, if_pos c1]; rfl
    · by_cases c2 : k = 12
      · subst c2
        refine ⟨-6, nI 12, nu, rfx rf 6, 0, ?_, ?_, i1, i2, i3, i5, ⟨12, hk, rfl, hl⟩⟩
        · unfold F_H_row; rw [if_pos c0, if_neg c1, if_neg (by decide +kernel)]; rfl
        · unfold F_M_row; rw [if_pos c0, if_neg c1, if_pos (by decide +kernel)]; rfl
      · have hk2 : k < 12 := by omega
        refine ⟨nI (k + 1), nI (k + 1), upd nu k x1, rf, 0, ?_, ?_, i1, i2, i3, i5, ⟨k + 1, by omega, rfl, fun j hj => ?_⟩⟩
        · unfold F_H_row F_Num_append
          rw [if_pos c0, if_neg c1, if_pos (ltC 12 12 hk2 (by omega) rfl), if_neg (nleC 12 12 hk2 (by omega) rfl), ck_nI _ hk2 (by omega), nI_clamp (by omega), nI_1]
          rfl
        · unfold F_M_row
          rw [if_pos c0, if_neg c1, if_neg (neC 12 12 c2 (by omega) (by omega) rfl), ck_nI _ hk2 (by omega), nI_clamp (by omega), nI_1]
        · by_cases e : j = k
          · subst e
            rw [i32_le, Int32.toInt_zero] at c0
            rw [i32_lt] at c1
            have c1 : ¬ (99 : Int) < x1.toInt := c1
            refine ⟨x1.toInt.toNat, by omega, ?_⟩
            apply Int32.toInt_inj.mp
            rw [nI_toInt (by omega)]
            show ((if j = j then x1 else nu j) : Int32).toInt = _
            rw [if_pos rfl]
            omega
          · obtain ⟨x, h1, h2⟩ := hl j (by omega)
            exact ⟨x, h1, by show (if j = k then x1 else nu j) = _; rw [if_neg e]; exact h2⟩
  · refine ⟨-4, nI k, nu, rfx rf 4, 0, ?_, ?_, i1, i2, i3, i5, ⟨k, hk, rfl, hl⟩⟩
    · unfold F_H_row; rw [if_neg c0]; rfl
    · unfold F_M_row; rw [if_neg c0]; rfl
