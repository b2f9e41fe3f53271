theorem P_dayOf {hk : Int32} {th : Int32} {dy : Int32} {dn : Int32} {wt : Nat → Int32} {kd : Nat → Int32} {fg : Nat → Int32} {go : Nat → Int32} {hm : Nat → Int32} {wi : Nat → Int32} {lf : Nat → Int32} {kth : Int32} {kdy : Int32} {kdn : Int32} {kwt : Nat → Int32} {kkd : Nat → Int32} {kfg : Nat → Int32} {kgo : Nat → Int32} {khm : Nat → Int32} {kwi : Nat → Int32} {klf : Nat → Int32} {sc : Int32} {sg : Nat → Nat} {sp : Nat → Int32} {sl : Nat → Int32} {sb : Nat → Int32} {sf : Nat → Int32} {sd : Nat → Int32} {lc : Int32} {lt : Nat → Int32} {nc : Int32} {nu : Nat → Int32} {rf : Nat → Int32} {im : Nat → Int32} {tu : Nat → Int32} (hI : Inv th dy dn wt kd fg go hm wi lf hk kth kdy kdn kwt kkd kfg kgo khm kwi klf im sc sg sp sl sb sf sd tu lt lc nu nc) (x1 : Int32) (x2 : Int32) : ∃ (r : Int32) (rf' : Nat → Int32) (m_thrown' : Int32), F_H_dayOf dy fg go hm kd wt rf x1 x2 = some (r, rf') ∧ F_M_dayOf dy th fg hm kd rf wt x1 x2 = some (r, m_thrown', rf') := by
  obtain ⟨⟨n, m, q, hn, hm8, hq, rfl, rfl, rfl, hw, ht, hd, hf⟩, -⟩ := hI
  rcases inR x1 m (by omega) with ⟨d, hdm, rfl⟩ | h
  · obtain ⟨hh, g1, g2⟩ := hd d hdm
    have k8 : d < 8 := by omega
    have eH : ∀ k : Option (Int32 × (Nat → Int32)), ck (nI d) 8 k = k := fun k => ck_nI k k8 (by omega)
    have eM : ∀ k : Option (Int32 × Int32 × (Nat → Int32)), ck (nI d) 8 k = k := fun k => ck_nI k k8 (by omega)
    rcases inR x2 5 (by omega) with ⟨w, hw5, rfl⟩ | h2
    · have c0 := M_in0_y 5 4 hw5 (by omega) (by decide +kernel)
      rcases (show w = 0 ∨ w = 1 ∨ w = 2 ∨ w = 3 ∨ w = 4 by omega) with rfl | rfl | rfl | rfl | rfl
      · refine ⟨hm d, rf, 0, ?_, ?_⟩
        · unfold F_H_dayOf; rw [hasD_y hdm hm8, eH, nI_clamp (by omega)]; rfl
        · unfold F_M_dayOf; rw [isD_y hdm hm8, c0, eM, nI_clamp (by omega)]; rfl
      · refine ⟨CB go (hm d), rf, 0, ?_, ?_⟩
        · unfold F_H_dayOf; rw [hasD_y hdm hm8, eH, nI_clamp (by omega), C_could]; rfl
        · unfold F_M_dayOf; rw [isD_y hdm hm8, c0, eM, eM, nI_clamp (by omega), g2, M_CB hn ht g1]; rfl
      · refine ⟨LK go wt (hm d), rf, 0, ?_, ?_⟩
        · unfold F_H_dayOf; rw [hasD_y hdm hm8, eH, nI_clamp (by omega), C_by]; rfl
        · unfold F_M_dayOf; rw [isD_y hdm hm8, c0, M_on hn hm8 ht hd hdm]; rfl
      · refine ⟨wsm (hvf kd fg) (hm d) 8, rf, 0, ?_, ?_⟩
        · unfold F_H_dayOf; rw [hasD_y hdm hm8, eH, nI_clamp (by omega), C_heavy]; rfl
        · unfold F_M_dayOf; rw [isD_y hdm hm8, c0, eM, eM, eM, nI_clamp (by omega), g2, M_HV hn ht g1]; rfl
      · refine ⟨wsm (drf kd fg) (hm d) 8, rf, 0, ?_, ?_⟩
        · unfold F_H_dayOf; rw [hasD_y hdm hm8, eH, nI_clamp (by omega), C_dear]; rfl
        · unfold F_M_dayOf; rw [isD_y hdm hm8, c0, eM, eM, eM, eM, nI_clamp (by omega), g2, M_DR hn ht g1]; rfl
    · refine ⟨-2, rfx rf 2, 0, ?_, ?_⟩
      · unfold F_H_dayOf
        rw [hasD_y hdm hm8, eH, if_neg (outC h2 0 0 (by omega) (by omega) rfl), if_neg (outC h2 1 1 (by omega) (by omega) rfl), if_neg (outC h2 2 2 (by omega) (by omega) rfl), if_neg (outC h2 3 3 (by omega) (by omega) rfl), if_neg (outC h2 4 4 (by omega) (by omega) rfl)]
        rfl
      · unfold F_M_dayOf F_M_dayOf_J25_3
        rw [isD_y hdm hm8, M_in0_n 5 4 h2 (by omega) (by omega) (by decide +kernel)]
        rfl
  · refine ⟨-1, rfx rf 1, 0, ?_, ?_⟩
    · unfold F_H_dayOf; rw [hasD_n h]; rfl
    · unfold F_M_dayOf F_M_dayOf_J25_3; rw [isD_n h hm8]; rfl
theorem P_thingOf {hk : Int32} {th : Int32} {dy : Int32} {dn : Int32} {wt : Nat → Int32} {kd : Nat → Int32} {fg : Nat → Int32} {go : Nat → Int32} {hm : Nat → Int32} {wi : Nat → Int32} {lf : Nat → Int32} {kth : Int32} {kdy : Int32} {kdn : Int32} {kwt : Nat → Int32} {kkd : Nat → Int32} {kfg : Nat → Int32} {kgo : Nat → Int32} {khm : Nat → Int32} {kwi : Nat → Int32} {klf : Nat → Int32} {sc : Int32} {sg : Nat → Nat} {sp : Nat → Int32} {sl : Nat → Int32} {sb : Nat → Int32} {sf : Nat → Int32} {sd : Nat → Int32} {lc : Int32} {lt : Nat → Int32} {nc : Int32} {nu : Nat → Int32} {rf : Nat → Int32} {im : Nat → Int32} {tu : Nat → Int32} (hI : Inv th dy dn wt kd fg go hm wi lf hk kth kdy kdn kwt kkd kfg kgo khm kwi klf im sc sg sp sl sb sf sd tu lt lc nu nc) (x1 : Int32) (x2 : Int32) : ∃ (r : Int32) (rf' : Nat → Int32) (m_thrown' : Int32), F_H_thingOf th fg go kd rf x1 x2 = some (r, rf') ∧ F_M_thingOf th fg kd rf x1 x2 = some (r, m_thrown', rf') := by
  obtain ⟨⟨n, m, q, hn, hm8, hq, rfl, rfl, rfl, hw, ht, hd, hf⟩, -⟩ := hI
  rcases inR x1 n (by omega) with ⟨d, hdm, rfl⟩ | h
  · obtain ⟨f1, f2, f3⟩ := things_fin hn ht d hdm
    have k8 : d < 8 := by omega
    have eH : ∀ k : Option (Int32 × (Nat → Int32)), ck (nI d) 8 k = k := fun k => ck_nI k k8 (by omega)
    have eM : ∀ k : Option (Int32 × Int32 × (Nat → Int32)), ck (nI d) 8 k = k := fun k => ck_nI k k8 (by omega)
    rcases inR x2 5 (by omega) with ⟨w, hw5, rfl⟩ | h2
    · have c0 := M_in0_y 5 4 hw5 (by omega) (by decide +kernel)
      rcases (show w = 0 ∨ w = 1 ∨ w = 2 ∨ w = 3 ∨ w = 4 by omega) with rfl | rfl | rfl | rfl | rfl
      · refine ⟨kd d, rf, 0, ?_, ?_⟩
        · unfold F_H_thingOf; rw [hasT_y hdm hn, eH, eH, nI_clamp (by omega)]; rfl
        · unfold F_M_thingOf; rw [isT_y hdm hn, c0, eM, nI_clamp (by omega)]; rfl
      · refine ⟨fg d, rf, 0, ?_, ?_⟩
        · unfold F_H_thingOf; rw [hasT_y hdm hn, eH, eH, nI_clamp (by omega)]; rfl
        · unfold F_M_thingOf; rw [isT_y hdm hn, c0, eM, eM, nI_clamp (by omega)]; rfl
      · refine ⟨hvf kd fg d, rf, 0, ?_, ?_⟩
        · unfold F_H_thingOf; rw [hasT_y hdm hn, eH, eH, nI_clamp (by omega), heavy_some]; rfl
        · unfold F_M_thingOf; rw [isT_y hdm hn, c0, f2]; rfl
      · refine ⟨drf kd fg d, rf, 0, ?_, ?_⟩
        · unfold F_H_thingOf; rw [hasT_y hdm hn, eH, eH, nI_clamp (by omega), dear_some]; rfl
        · unfold F_M_thingOf; rw [isT_y hdm hn, c0, f3]; rfl
      · refine ⟨go d, rf, 0, ?_, ?_⟩
        · unfold F_H_thingOf; rw [hasT_y hdm hn, eH, eH, eH, nI_clamp (by omega)]; rfl
        · unfold F_M_thingOf; rw [isT_y hdm hn, c0, f1]; rfl
    · refine ⟨-2, rfx rf 2, 0, ?_, ?_⟩
      · unfold F_H_thingOf
        rw [hasT_y hdm hn, eH, eH, if_neg (outC h2 0 0 (by omega) (by omega) rfl), if_neg (outC h2 1 1 (by omega) (by omega) rfl), if_neg (outC h2 2 2 (by omega) (by omega) rfl), if_neg (outC h2 3 3 (by omega) (by omega) rfl), if_neg (outC h2 4 4 (by omega) (by omega) rfl)]
        rfl
      · unfold F_M_thingOf F_M_thingOf_J25_3
        rw [isT_y hdm hn, M_in0_n 5 4 h2 (by omega) (by omega) (by decide +kernel)]
        rfl
  · refine ⟨-1, rfx rf 1, 0, ?_, ?_⟩
    · unfold F_H_thingOf; rw [hasT_n h]; rfl
    · unfold F_M_thingOf F_M_thingOf_J25_3; rw [isT_n h hn]; rfl
