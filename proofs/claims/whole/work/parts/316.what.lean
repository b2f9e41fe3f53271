theorem P_whatKind {hk : Int32} {th : Int32} {dy : Int32} {dn : Int32} {wt : Nat → Int32} {kd : Nat → Int32} {fg : Nat → Int32} {go : Nat → Int32} {hm : Nat → Int32} {wi : Nat → Int32} {lf : Nat → Int32} {kth : Int32} {kdy : Int32} {kdn : Int32} {kwt : Nat → Int32} {kkd : Nat → Int32} {kfg : Nat → Int32} {kgo : Nat → Int32} {khm : Nat → Int32} {kwi : Nat → Int32} {klf : Nat → Int32} {sc : Int32} {sg : Nat → Nat} {sp : Nat → Int32} {sl : Nat → Int32} {sb : Nat → Int32} {sf : Nat → Int32} {sd : Nat → Int32} {lc : Int32} {lt : Nat → Int32} {nc : Int32} {nu : Nat → Int32} {rf : Nat → Int32} {im : Nat → Int32} {tu : Nat → Int32} (hI : Inv th dy dn wt kd fg go hm wi lf hk kth kdy kdn kwt kkd kfg kgo khm kwi klf im sc sg sp sl sb sf sd tu lt lc nu nc) (x1 : Int32) (x2 : Int32) : ∃ (r : Int32) (rf' : Nat → Int32) (m_thrown' : Int32), F_H_whatKind th fg kd nc nu rf x1 x2 = some (r, rf') ∧ F_M_whatKind nc th fg kd rf nu x1 x2 = some (r, m_thrown', rf') := by
  obtain ⟨⟨n, m, q, hn, hm8, hq, rfl, rfl, rfl, hw, ht, hd, hf⟩, -, -, -, ⟨c, hc, rfl, hb⟩⟩ := hI
  have eJ : ∀ (q4 x1 x2 : Int32), ¬ q4 = 0 → F_M_whatKind_J18_3 (nI c) fg kd rf nu x1 x2 q4 = (F_M_wrongBit q4 x2 1).bind (fun q => F_M_whatKind_J96_13 (nI c) fg kd rf nu x1 x2 q) := by
    intro q4 x1 x2 h0
    unfold F_M_whatKind_J18_3 F_M_whatKind_J38_6 F_M_whatKind_J95_28 F_M_wrongBit
    rw [if_neg h0, Option.bind_some, Option.bind_some]
    by_cases c6 : 6 < nI c
    · rw [if_pos c6, M_rows0 hc, if_neg h0]
    · rw [if_neg c6, M_rows1 hc, if_neg h0]
  rcases inR x1 n (by omega) with ⟨t, htn, rfl⟩ | h
  · obtain ⟨k0, f0, hk, hf9, ek, ef, -⟩ := ht t htn
    rcases inR x2 2 (by omega) with ⟨v, hv2, rfl⟩ | h
    · have c1 : F_M_wrongBit 0 (nI v) 1 = some 0 := by
        unfold F_M_wrongBit
        rw [if_pos rfl, M_in0_y 2 (Int32.toInt64 1) hv2 (by omega) (by decide +kernel)]
        rfl
      have no : (F_Num_tellOfWeathers (nI c) nu = some 0 ∧ F_M_whatKind_J18_3 (nI c) fg kd rf nu (nI t) (nI v) 0 = F_M_whatKind_J96_13 (nI c) fg kd rf nu (nI t) (nI v) (-3)) ∨ (c ≤ 6 ∧ isR (two nu) c = 1 ∧ F_Num_tellOfWeathers (nI c) nu = some 1 ∧ F_M_whatKind_J18_3 (nI c) fg kd rf nu (nI t) (nI v) 0 = F_M_whatKind_J96_13 (nI c) fg kd rf nu (nI t) (nI v) 0) := by
        have eC := C_tellOf (nu := nu) hc
        unfold F_M_whatKind_J18_3 F_M_whatKind_J38_6 F_M_whatKind_J95_28
        rw [c1, Option.bind_some]
        by_cases c6 : c ≤ 6
        · have l6 : nI c ≤ 6 := by rw [i32_le, nI_toInt (by omega), show (6 : Int32).toInt = 6 by decide +kernel]; omega
          have g6 : ¬ 6 < nI c := by rw [i32_lt]; rw [i32_le] at l6; omega
          rw [if_pos l6] at eC
          rw [if_neg g6, M_rows1 hc, if_pos rfl]
          rcases isR_or (two nu) c with e | e
          · left
            rw [e, if_pos rfl]
            exact ⟨eC.trans (congrArg some e), rfl⟩
          · right
            rw [e, if_neg (by decide)]
            exact ⟨c6, rfl, eC.trans (congrArg some e), rfl⟩
        · have g6 : (6 : Int32) < nI c := by rw [i32_lt, nI_toInt (by omega), show (6 : Int32).toInt = 6 by decide +kernel]; omega
          have l6 : ¬ nI c ≤ 6 := by rw [i32_le]; rw [i32_lt] at g6; omega
          rw [if_neg l6] at eC
          rw [if_pos g6, M_rows0 hc, if_pos rfl, if_pos rfl]
          exact Or.inl ⟨eC, rfl⟩
      rcases no with ⟨e1, e2⟩ | ⟨c6, e0, e1, e2⟩
      · refine ⟨-3, rfx rf 3, 0, ?_, ?_⟩
        · unfold F_H_whatKind F_H_whatKind_J33_4
          rw [hasT_y htn hn, Option.bind_some, if_neg (by decide), e1]
          rcases (show v = 0 ∨ v = 1 by omega) with rfl | rfl <;> rfl
        · unfold F_M_whatKind
          rw [isT_y htn hn, Option.bind_some, if_neg (by decide), e2]
          rfl
      · rcases (show v = 0 ∨ v = 1 by omega) with rfl | rfl
        · refine ⟨dbs (fun d => decide (¬ isR (iso nu (nI d) (nI f0)) c = 0)) 6, rf, 0, ?_, ?_⟩
          · unfold F_H_whatKind F_H_whatKind_J33_4
            rw [hasT_y htn hn, Option.bind_some, if_neg (by decide), e1, Option.bind_some, if_pos (show nI 0 = 0 from rfl), if_neg (by decide), if_pos (show nI 0 = 0 from rfl), ck_nI _ (show t < 8 by omega) (by omega), nI_clamp (show t < 2 ^ 31 by omega), ef, C_kinds c6 hf9]
            rfl
          · unfold F_M_whatKind
            rw [isT_y htn hn, Option.bind_some, if_neg (by decide), e2]
            unfold F_M_whatKind_J96_13
            rw [if_pos (by decide)]
            exact M_kindsL c6 hf9 (show t < 8 by omega) ef (is012 e0 hb)
        · refine ⟨dbs (fun d => decide (¬ isR (iso nu (nI k0) (nI d)) c = 0)) 10, rf, 0, ?_, ?_⟩
          · unfold F_H_whatKind F_H_whatKind_J33_4
            rw [hasT_y htn hn, Option.bind_some, if_neg (by decide), e1, Option.bind_some, if_neg (show ¬ nI 1 = 0 by decide), if_pos (show nI 1 = 1 from rfl), if_neg (by decide), if_neg (show ¬ nI 1 = 0 by decide), ck_nI _ (show t < 8 by omega) (by omega), nI_clamp (show t < 2 ^ 31 by omega), ek, C_figs c6 hk]
            rfl
          · unfold F_M_whatKind
            rw [isT_y htn hn, Option.bind_some, if_neg (by decide), e2]
            unfold F_M_whatKind_J96_13
            rw [if_pos (by decide)]
            exact M_figsL c6 hk (show t < 8 by omega) ek (is012 e0 hb)
    · refine ⟨-2, rfx rf 2, 0, ?_, ?_⟩
      · unfold F_H_whatKind
        rw [hasT_y htn hn, Option.bind_some, if_neg (by decide), if_neg (outC h 0 0 (by omega) (by omega) rfl), if_neg (outC h 1 1 (by omega) (by omega) rfl)]
        rfl
      · have c1 : F_M_wrongBit 0 x2 1 = some (-2) := by
          unfold F_M_wrongBit
          rw [if_pos rfl, M_in0_n 2 (Int32.toInt64 1) h (by omega) (by omega) (by decide +kernel)]
          rfl
        unfold F_M_whatKind
        rw [isT_y htn hn, Option.bind_some, if_neg (by decide)]
        unfold F_M_whatKind_J18_3 F_M_whatKind_J38_6 F_M_whatKind_J95_28
        rw [c1, Option.bind_some]
        by_cases c6 : 6 < nI c
        · rw [if_pos c6, M_rows0 hc, if_neg (by decide)]; rfl
        · rw [if_neg c6, M_rows1 hc, if_neg (by decide)]; rfl
  · refine ⟨-1, rfx rf 1, 0, ?_, ?_⟩
    · unfold F_H_whatKind; rw [hasT_n h]; rfl
    · unfold F_M_whatKind
      rw [isT_n h hn, Option.bind_some, if_pos rfl, eJ (-1) x1 x2 (by decide)]
      rfl
