theorem P_fieldOf {hk : Int32} {th : Int32} {dy : Int32} {dn : Int32} {wt : Nat → Int32} {kd : Nat → Int32} {fg : Nat → Int32} {go : Nat → Int32} {hm : Nat → Int32} {wi : Nat → Int32} {lf : Nat → Int32} {kth : Int32} {kdy : Int32} {kdn : Int32} {kwt : Nat → Int32} {kkd : Nat → Int32} {kfg : Nat → Int32} {kgo : Nat → Int32} {khm : Nat → Int32} {kwi : Nat → Int32} {klf : Nat → Int32} {sc : Int32} {sg : Nat → Nat} {sp : Nat → Int32} {sl : Nat → Int32} {sb : Nat → Int32} {sf : Nat → Int32} {sd : Nat → Int32} {lc : Int32} {lt : Nat → Int32} {nc : Int32} {nu : Nat → Int32} {rf : Nat → Int32} {im : Nat → Int32} {tu : Nat → Int32} (hI : Inv th dy dn wt kd fg go hm wi lf hk kth kdy kdn kwt kkd kfg kgo khm kwi klf im sc sg sp sl sb sf sd tu lt lc nu nc) (x1 : Int32) (x2 : Int32) : ∃ (r : Int32) (rf' : Nat → Int32) (m_thrown' : Int32), F_H_fieldOf lf wi rf x1 x2 = some (r, rf') ∧ F_M_fieldOf lf rf wi x1 x2 = some (r, m_thrown', rf') := by
  rcases inR x1 4 (by omega) with ⟨d, hd, rfl⟩ | h
  · rcases inR x2 2 (by omega) with ⟨w, hw, rfl⟩ | h2
    · rcases (show w = 0 ∨ w = 1 by omega) with rfl | rfl
      · refine ⟨wi d, rf, 0, ?_, ?_⟩
        · unfold F_H_fieldOf
          rw [isF_y hd]
          show ck (nI d) 4 _ = _
          rw [ck_nI _ hd (by omega), nI_clamp (by omega)]
        · unfold F_M_fieldOf
          rw [M_in0_y 4 3 hd (by omega) (by decide +kernel)]
          show ck (nI d) 4 _ = _
          rw [ck_nI _ hd (by omega), nI_clamp (by omega)]
      · refine ⟨lf d, rf, 0, ?_, ?_⟩
        · unfold F_H_fieldOf
          rw [isF_y hd]
          show ck (nI d) 4 _ = _
          rw [ck_nI _ hd (by omega), nI_clamp (by omega)]
        · unfold F_M_fieldOf
          rw [M_in0_y 4 3 hd (by omega) (by decide +kernel)]
          show ck (nI d) 4 _ = _
          rw [ck_nI _ hd (by omega), nI_clamp (by omega)]
    · refine ⟨-2, rfx rf 2, 0, ?_, ?_⟩
      · unfold F_H_fieldOf
        rw [isF_y hd]
        show (if x2 = 0 then _ else if x2 = 1 then _ else _) = _
        rw [if_neg (outC h2 0 0 (by omega) (by omega) rfl), if_neg (outC h2 1 1 (by omega) (by omega) rfl)]
        rfl
      · unfold F_M_fieldOf F_M_fieldOf_J29_3
        rw [M_in0_y 4 3 hd (by omega) (by decide +kernel), M_in0_n 2 1 h2 (by omega) (by omega) (by decide +kernel)]
        rfl
  · refine ⟨-1, rfx rf 1, 0, ?_, ?_⟩
    · unfold F_H_fieldOf
      rw [isF_n h]
      rfl
    · unfold F_M_fieldOf F_M_fieldOf_J29_3
      rw [M_in0_n 4 3 h (by omega) (by omega) (by decide +kernel)]
      rfl
