-- wants, spends, back
theorem C_noteF {k f : Nat} (hk : k ≤ 8) {sg : Nat → Nat} (hP : IP sg) (sb sd sf sp sl lf wi : Nat → Int32) (dn : Int32) (hf : f < 4) : F_Sps_noteField (nI k) sg sb sd sf sp sl dn lf wi (nI f) = some (nI (cN k + 1), sgN sg k, upd sb (sgN sg k (cN k)) (wi f), upd sd (sgN sg k (cN k)) dn, upd sf (sgN sg k (cN k)) (lf f), upd sp (sgN sg k (cN k)) 2, upd sl (sgN sg k (cN k)) (nI f)) := by
  unfold F_Sps_noteField
  rw [C_note hk hP, Option.bind_some, isF_y hf, Option.bind_some, if_neg (by decide), ck_nI _ hf (by omega), ckN_in (top_of hP), ck_nI _ hf (by omega), nI_clamp (show f < 2 ^ 31 by omega)]
theorem C_noteF9 {k : Nat} (hk : k ≤ 8) {sg : Nat → Nat} (hP : IP sg) (sb sd sf sp sl lf wi : Nat → Int32) (dn : Int32) : F_Sps_noteField (nI k) sg sb sd sf sp sl dn lf wi (-9) = some (nI (cN k + 1), sgN sg k, sb, upd sd (sgN sg k (cN k)) dn, sf, upd sp (sgN sg k (cN k)) 2, upd sl (sgN sg k (cN k)) (-9)) := by
  unfold F_Sps_noteField
  rw [C_note hk hP, Option.bind_some]
  rfl
theorem uFd_y {f : Nat} (hf : f < 4) (b : Int32) (a : Nat → Int32) : uFd 2 (nI f) b a = upd a f b := by
  unfold uFd
  rw [if_pos ⟨rfl, by rw [i32_le, nI_toInt (by omega), Int32.toInt_zero]; omega, ltC 4 4 hf (by omega) rfl⟩, nI_clamp (show f < 2 ^ 31 by omega)]
theorem uFd_9 (b : Int32) (a : Nat → Int32) : uFd 2 (-9) b a = a := by
  unfold uFd
  exact if_neg (fun e => absurd e.2.1 (by decide))
theorem P_wants {hk : Int32} {th : Int32} {dy : Int32} {dn : Int32} {wt : Nat → Int32} {kd : Nat → Int32} {fg : Nat → Int32} {go : Nat → Int32} {hm : Nat → Int32} {wi : Nat → Int32} {lf : Nat → Int32} {kth : Int32} {kdy : Int32} {kdn : Int32} {kwt : Nat → Int32} {kkd : Nat → Int32} {kfg : Nat → Int32} {kgo : Nat → Int32} {khm : Nat → Int32} {kwi : Nat → Int32} {klf : Nat → Int32} {sc : Int32} {sg : Nat → Nat} {sp : Nat → Int32} {sl : Nat → Int32} {sb : Nat → Int32} {sf : Nat → Int32} {sd : Nat → Int32} {lc : Int32} {lt : Nat → Int32} {nc : Int32} {nu : Nat → Int32} {rf : Nat → Int32} {m_place0 : Int32} {m_isTaking : Int32} {m_keptIn : Int32} {im : Nat → Int32} {tu : Nat → Int32} {m_turnOf : Nat → Int32} (hI : Inv th dy dn wt kd fg go hm wi lf hk kth kdy kdn kwt kkd kfg kgo khm kwi klf im sc sg sp sl sb sf sd tu lt lc nu nc) (x1 : Int32) (x2 : Int32) (x3 : Int32) : ∃ (r : Int32) (wi' : Nat → Int32) (lf' : Nat → Int32) (sc' : Int32) (sg' : Nat → Nat) (sp' : Nat → Int32) (sl' : Nat → Int32) (sb' : Nat → Int32) (sf' : Nat → Int32) (sd' : Nat → Int32) (rf' : Nat → Int32) (m_thrown' : Int32) (m_place0' : Int32) (m_isTaking' : Int32) (m_keptIn' : Int32) (tu' : Nat → Int32) (m_turnOf' : Nat → Int32), F_H_wants dn lf wi rf sc sg sb sd sf sp sl x1 x2 x3 = some (r, lf', wi', rf', sc', sg', sb', sd', sf', sp', sl') ∧ F_M_wants dy dn m_isTaking m_keptIn m_place0 th sc fg hm kd lf rf m_turnOf tu wi wt x1 x2 x3 = some (r, dy, dn, m_isTaking', m_keptIn', m_place0', th, m_thrown', sc', fg, hm, kd, lf', rf', m_turnOf', tu', wi', wt) ∧ Inv th dy dn wt kd fg go hm wi' lf' hk kth kdy kdn kwt kkd kfg kgo khm kwi klf im sc' sg' sp' sl' sb' sf' sd' tu' lt lc nu nc := by
  have hI0 := hI
  obtain ⟨⟨n, m, q, hn, hm8, hq, rfl, rfl, rfl, hw, ht, hd, hf⟩, hK, ⟨hP, k, hk8, rfl, hT⟩, hL, hN⟩ := hI
  have hS := hI0.1
  have ref : ∀ c : Int32, F_Fld_wishRefusal x1 x2 x3 = some c → (∀ z, F_M_wants (nI m) (nI q) m_isTaking m_keptIn m_place0 (nI n) (nI k) fg hm kd lf rf m_turnOf tu wi wt x1 x2 x3 = z → z = F_M_wants_J57_3 (nI m) (nI q) m_isTaking m_keptIn m_place0 (nI n) (nI k) fg hm kd lf rf m_turnOf tu wi wt x1 x2 x3 c) → (c = -1 ∨ c = -4 ∨ c = -6) → ∃ (r : Int32) (wi' : Nat → Int32) (lf' : Nat → Int32) (sc' : Int32) (sg' : Nat → Nat) (sp' : Nat → Int32) (sl' : Nat → Int32) (sb' : Nat → Int32) (sf' : Nat → Int32) (sd' : Nat → Int32) (rf' : Nat → Int32) (m_thrown' : Int32) (m_place0' : Int32) (m_isTaking' : Int32) (m_keptIn' : Int32) (tu' : Nat → Int32) (m_turnOf' : Nat → Int32), F_H_wants (nI q) lf wi rf (nI k) sg sb sd sf sp sl x1 x2 x3 = some (r, lf', wi', rf', sc', sg', sb', sd', sf', sp', sl') ∧ F_M_wants (nI m) (nI q) m_isTaking m_keptIn m_place0 (nI n) (nI k) fg hm kd lf rf m_turnOf tu wi wt x1 x2 x3 = some (r, nI m, nI q, m_isTaking', m_keptIn', m_place0', nI n, m_thrown', sc', fg, hm, kd, lf', rf', m_turnOf', tu', wi', wt) ∧ Inv (nI n) (nI m) (nI q) wt kd fg go hm wi' lf' hk kth kdy kdn kwt kkd kfg kgo khm kwi klf im sc' sg' sp' sl' sb' sf' sd' tu' lt lc nu nc := by
    intro c h1 h2 h3
    rw [h2 _ rfl]
    unfold F_H_wants
    rw [h1, Option.bind_some]
    rcases h3 with rfl | rfl | rfl
    · exact ⟨-1, wi, lf, nI k, sg, sp, sl, sb, sf, sd, rfx rf 1, 0, m_place0, m_isTaking, m_keptIn, tu, m_turnOf, rfl, rfl, hI0⟩
    · exact ⟨-4, wi, lf, nI k, sg, sp, sl, sb, sf, sd, rfx rf 4, 0, m_place0, m_isTaking, m_keptIn, tu, m_turnOf, rfl, rfl, hI0⟩
    · exact ⟨-6, wi, lf, nI k, sg, sp, sl, sb, sf, sd, rfx rf 6, 0, m_place0, m_isTaking, m_keptIn, tu, m_turnOf, rfl, rfl, hI0⟩
  rcases inR x1 4 (by omega) with ⟨f, hf4, rfl⟩ | h
  · by_cases c1 : x2 < 0
    · refine ref (-4) ?_ ?_ (Or.inr (Or.inl rfl))
      · unfold F_Fld_wishRefusal
        rw [isF_y hf4, Option.bind_some, if_neg (by decide), if_pos c1]
      · intro z hz
        rw [← hz]
        unfold F_M_wants F_M_wants_J34_11
        rw [M_in0_y 4 3 hf4 (by omega) (by decide +kernel), Option.bind_some, if_neg (by decide), if_pos c1]
    · by_cases c2 : (0 : Int32) ≤ x3
      · by_cases c3 : (63 : Int32) < x2
        · refine ref (-6) ?_ ?_ (Or.inr (Or.inr rfl))
          · unfold F_Fld_wishRefusal
            rw [isF_y hf4, Option.bind_some, if_neg (by decide), if_neg c1, if_pos c2, if_pos c3]
          · intro z hz
            rw [← hz]
            unfold F_M_wants F_M_wants_J53_14
            rw [M_in0_y 4 3 hf4 (by omega) (by decide +kernel), Option.bind_some, if_neg (by decide), if_neg c1, if_pos c2, if_pos c3]
        · by_cases c4 : x3 ≤ 9
          · have hx2 : ∃ x, x ≤ 63 ∧ x2 = nI x := by
              rcases inR x2 64 (by omega) with ⟨x, hx, e⟩ | h | ⟨-, h⟩
              · exact ⟨x, by omega, e⟩
              · exact absurd h c1
              · rw [i32_le, nI_toInt (by omega)] at h
                rw [i32_lt, show (63 : Int32).toInt = 63 by decide +kernel] at c3
                omega
            have hx3 : ∃ x, x ≤ 9 ∧ x3 = nI x := by
              rcases inR x3 10 (by omega) with ⟨x, hx, e⟩ | h | ⟨-, h⟩
              · exact ⟨x, by omega, e⟩
              · rw [i32_lt] at h
                rw [i32_le] at c2
                omega
              · rw [i32_le, nI_toInt (by omega)] at h
                rw [i32_le, show (9 : Int32).toInt = 9 by decide +kernel] at c4
                omega
            refine ⟨lf f, upd wi f x2, upd lf f x3, nI (cN k + 1), sgN sg k, upd sp (sgN sg k (cN k)) 2, upd sl (sgN sg k (cN k)) (nI f), upd sb (sgN sg k (cN k)) (wi f), upd sf (sgN sg k (cN k)) (lf f), upd sd (sgN sg k (cN k)) (nI q), rf, 0, nI 41, 1, 3, tuN tu k (evS (nI n) (nI m) (nI q) wt kd fg hm wi lf), cpf m_turnOf (evS (nI n) (nI m) (nI q) wt kd fg hm wi lf) 41, ?_, ?_, ?_, hK, ⟨IP_N hP k, cN k + 1, cN_lt, rfl, ?_⟩, hL, hN⟩
            · unfold F_H_wants F_Fld_wishRefusal F_Fld_become
              rw [isF_y hf4, Option.bind_some, if_neg (by decide), if_neg c1, if_pos c2, if_neg c3, if_pos c4, Option.bind_some, if_pos rfl, ck_nI _ hf4 (by omega), C_noteF hk8 hP _ _ _ _ _ _ _ _ hf4, Option.bind_some, Option.bind_some, if_neg (by decide), ck_nI _ hf4 (by omega), ck_nI _ hf4 (by omega), nI_clamp (show f < 2 ^ 31 by omega), Option.bind_some]
            · unfold F_M_wants F_M_wants_J57_3
              rw [M_in0_y 4 3 hf4 (by omega) (by decide +kernel), Option.bind_some, if_neg (by decide), if_neg c1, if_pos c2, if_neg c3, if_pos c4, if_pos (by decide), M_keep hk8, Option.bind_some, ck_nI _ hf4 (by omega), ck_nI _ hf4 (by omega), ck_nI _ hf4 (by omega), nI_clamp (show f < 2 ^ 31 by omega)]
            · refine ⟨n, m, q, hn, hm8, hq, rfl, rfl, rfl, hw, ht, hd, fun j hj => ?_⟩
              by_cases e : j = f
              · subst e
                obtain ⟨a, ha, ea⟩ := hx2
                obtain ⟨b, hb, eb⟩ := hx3
                exact ⟨a, b, ha, hb, by rw [updA, ea], by rw [updA, eb]⟩
              · obtain ⟨a, b, h1, h2, h3, h4⟩ := hf j hj
                exact ⟨a, b, h1, h2, by rw [updN _ _ e, h3], by rw [updN _ _ e, h4]⟩
            · refine push hk8 hP hS hT (fun r hr => updN _ _ hr) (fun r hr => updN _ _ hr) (fun r hr => updN _ _ hr) (fun r hr => updN _ _ hr) (fun r hr => updN _ _ hr) ?_ ?_ ?_ ?_ ?_ ?_ ?_ ?_
              · rw [updA]
                intro e
                exact absurd e (by decide)
              · rw [updA]
                intro e
                exact absurd e (by decide)
              · exact Or.inr (Or.inr (updA _ _ _))
              · rw [updA, updA]
                exact if_pos rfl
              · rw [updA]
                exact if_neg (by decide)
              · rw [updA]
                exact if_neg (by decide)
              · rw [updA, updA, updA, uFd_y hf4, updU, updS]
              · rw [updA, updA, updA, uFd_y hf4, updU, updS]
          · refine ref (-6) ?_ ?_ (Or.inr (Or.inr rfl))
            · unfold F_Fld_wishRefusal
              rw [isF_y hf4, Option.bind_some, if_neg (by decide), if_neg c1, if_pos c2, if_neg c3, if_neg c4]
            · intro z hz
              rw [← hz]
              unfold F_M_wants F_M_wants_J53_14
              rw [M_in0_y 4 3 hf4 (by omega) (by decide +kernel), Option.bind_some, if_neg (by decide), if_neg c1, if_pos c2, if_neg c3, if_neg c4]
      · refine ref (-4) ?_ ?_ (Or.inr (Or.inl rfl))
        · unfold F_Fld_wishRefusal
          rw [isF_y hf4, Option.bind_some, if_neg (by decide), if_neg c1, if_neg c2]
        · intro z hz
          rw [← hz]
          unfold F_M_wants F_M_wants_J34_11
          rw [M_in0_y 4 3 hf4 (by omega) (by decide +kernel), Option.bind_some, if_neg (by decide), if_neg c1, if_neg c2]
  · refine ref (-1) ?_ ?_ (Or.inl rfl)
    · unfold F_Fld_wishRefusal
      rw [isF_n h, Option.bind_some, if_pos rfl]
    · intro z hz
      rw [← hz]
      unfold F_M_wants
      rw [M_in0_n 4 3 h (by omega) (by omega) (by decide +kernel), Option.bind_some, if_pos rfl]
