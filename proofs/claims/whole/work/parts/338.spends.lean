-- spends
theorem C_spend {lf wi : Nat → Int32} {W : Int32} (dn : Int32) : F_Sta_spend dn lf wi W = some (ixO (ffw lf wi W), spd lf wi W dn, spl lf wi W) := by
  unfold F_Sta_spend
  rw [C_work, Option.bind_some]
  cases e : ffw lf wi W with
  | none =>
    rw [spd_n e]
    rfl
  | some f =>
    obtain ⟨h4, -, -⟩ := ffw_in e
    rw [spd_y e]
    show (if nI f < 0 then some (nI f, dn, spl lf wi W) else if 999 ≤ dn then some (nI f, dn, spl lf wi W) else some (nI f, dn + 1, spl lf wi W)) = _
    rw [if_neg (nI_ge0 (by omega))]
    by_cases c : (999 : Int32) ≤ dn
    · rw [if_pos c, if_pos c]; rfl
    · rw [if_neg c, if_neg c]; rfl
theorem P_spends {hk : Int32} {th : Int32} {dy : Int32} {dn : Int32} {wt : Nat → Int32} {kd : Nat → Int32} {fg : Nat → Int32} {go : Nat → Int32} {hm : Nat → Int32} {wi : Nat → Int32} {lf : Nat → Int32} {kth : Int32} {kdy : Int32} {kdn : Int32} {kwt : Nat → Int32} {kkd : Nat → Int32} {kfg : Nat → Int32} {kgo : Nat → Int32} {khm : Nat → Int32} {kwi : Nat → Int32} {klf : Nat → Int32} {sc : Int32} {sg : Nat → Nat} {sp : Nat → Int32} {sl : Nat → Int32} {sb : Nat → Int32} {sf : Nat → Int32} {sd : Nat → Int32} {lc : Int32} {lt : Nat → Int32} {nc : Int32} {nu : Nat → Int32} {rf : Nat → Int32} {m_place0 : Int32} {m_isTaking : Int32} {m_keptIn : Int32} {im : Nat → Int32} {tu : Nat → Int32} {m_turnOf : Nat → Int32} (hI : Inv th dy dn wt kd fg go hm wi lf hk kth kdy kdn kwt kkd kfg kgo khm kwi klf im sc sg sp sl sb sf sd tu lt lc nu nc) (x1 : Int32) (x2 : Int32) : ∃ (r : Int32) (dn' : Int32) (lf' : Nat → Int32) (sc' : Int32) (sg' : Nat → Nat) (sp' : Nat → Int32) (sl' : Nat → Int32) (sb' : Nat → Int32) (sf' : Nat → Int32) (sd' : Nat → Int32) (rf' : Nat → Int32) (m_thrown' : Int32) (m_place0' : Int32) (m_isTaking' : Int32) (m_keptIn' : Int32) (tu' : Nat → Int32) (m_turnOf' : Nat → Int32), F_H_spends dy dn lf wi go hm wt rf sc sg sb sd sf sp sl x1 x2 = some (r, dn', lf', rf', sc', sg', sb', sd', sf', sp', sl') ∧ F_M_spends dy dn m_isTaking m_keptIn m_place0 th sc fg hm kd lf rf m_turnOf tu wi wt x1 x2 = some (r, dy, dn', m_isTaking', m_keptIn', m_place0', th, m_thrown', sc', fg, hm, kd, lf', rf', m_turnOf', tu', wi, wt) ∧ Inv th dy dn' wt kd fg go hm wi lf' hk kth kdy kdn kwt kkd kfg kgo khm kwi klf im sc' sg' sp' sl' sb' sf' sd' tu' lt lc nu nc := by
  have hI0 := hI
  obtain ⟨⟨n, m, q, hn, hm8, hq, rfl, rfl, rfl, hw, ht, hd, hf⟩, hK, ⟨hP, k, hk8, rfl, hT⟩, hL, hN⟩ := hI
  have hS := hI0.1
  have ref : F_Sta_spendRefusal (nI m) x1 x2 = some (-1) → (∀ z, F_M_spends (nI m) (nI q) m_isTaking m_keptIn m_place0 (nI n) (nI k) fg hm kd lf rf m_turnOf tu wi wt x1 x2 = z → z = F_M_spends_J31_3 (nI m) (nI q) m_isTaking m_keptIn m_place0 (nI n) (nI k) fg hm kd lf rf m_turnOf tu wi wt) → ∃ (r : Int32) (dn' : Int32) (lf' : Nat → Int32) (sc' : Int32) (sg' : Nat → Nat) (sp' : Nat → Int32) (sl' : Nat → Int32) (sb' : Nat → Int32) (sf' : Nat → Int32) (sd' : Nat → Int32) (rf' : Nat → Int32) (m_thrown' : Int32) (m_place0' : Int32) (m_isTaking' : Int32) (m_keptIn' : Int32) (tu' : Nat → Int32) (m_turnOf' : Nat → Int32), F_H_spends (nI m) (nI q) lf wi go hm wt rf (nI k) sg sb sd sf sp sl x1 x2 = some (r, dn', lf', rf', sc', sg', sb', sd', sf', sp', sl') ∧ F_M_spends (nI m) (nI q) m_isTaking m_keptIn m_place0 (nI n) (nI k) fg hm kd lf rf m_turnOf tu wi wt x1 x2 = some (r, nI m, dn', m_isTaking', m_keptIn', m_place0', nI n, m_thrown', sc', fg, hm, kd, lf', rf', m_turnOf', tu', wi, wt) ∧ Inv (nI n) (nI m) dn' wt kd fg go hm wi lf' hk kth kdy kdn kwt kkd kfg kgo khm kwi klf im sc' sg' sp' sl' sb' sf' sd' tu' lt lc nu nc := by
    intro h1 h2
    rw [h2 _ rfl]
    unfold F_H_spends
    rw [h1, Option.bind_some]
    exact ⟨-1, nI q, lf, nI k, sg, sp, sl, sb, sf, sd, rfx rf 1, 0, m_place0, m_isTaking, m_keptIn, tu, m_turnOf, rfl, rfl, hI0⟩
  have fin : ∀ W : Int32, (W = -9 ∨ ∃ k, k < 6 ∧ W = nI k) → (∀ z, F_H_spends (nI m) (nI q) lf wi go hm wt rf (nI k) sg sb sd sf sp sl x1 x2 = z → z = F_H_spends_J38_4 (nI q) lf wi rf (nI k) sg sb sd sf sp sl W) → (∀ z, F_M_spends (nI m) (nI q) m_isTaking m_keptIn m_place0 (nI n) (nI k) fg hm kd lf rf m_turnOf tu wi wt x1 x2 = z → z = (F_M_spendWith (nI q) lf wi W).bind (fun q_9 => some (q_9.1, nI m, q_9.2.1, 1, 3, nI 41, nI n, 0, nI (cN k + 1), fg, hm, kd, q_9.2.2, rf, cpf m_turnOf (evS (nI n) (nI m) (nI q) wt kd fg hm wi lf) 41, tuN tu k (evS (nI n) (nI m) (nI q) wt kd fg hm wi lf), wi, wt))) → ∃ (r : Int32) (dn' : Int32) (lf' : Nat → Int32) (sc' : Int32) (sg' : Nat → Nat) (sp' : Nat → Int32) (sl' : Nat → Int32) (sb' : Nat → Int32) (sf' : Nat → Int32) (sd' : Nat → Int32) (rf' : Nat → Int32) (m_thrown' : Int32) (m_place0' : Int32) (m_isTaking' : Int32) (m_keptIn' : Int32) (tu' : Nat → Int32) (m_turnOf' : Nat → Int32), F_H_spends (nI m) (nI q) lf wi go hm wt rf (nI k) sg sb sd sf sp sl x1 x2 = some (r, dn', lf', rf', sc', sg', sb', sd', sf', sp', sl') ∧ F_M_spends (nI m) (nI q) m_isTaking m_keptIn m_place0 (nI n) (nI k) fg hm kd lf rf m_turnOf tu wi wt x1 x2 = some (r, nI m, dn', m_isTaking', m_keptIn', m_place0', nI n, m_thrown', sc', fg, hm, kd, lf', rf', m_turnOf', tu', wi, wt) ∧ Inv (nI n) (nI m) dn' wt kd fg go hm wi lf' hk kth kdy kdn kwt kkd kfg kgo khm kwi klf im sc' sg' sp' sl' sb' sf' sd' tu' lt lc nu nc := by
    intro W hW h1 h2
    rw [h2 _ rfl, h1 _ rfl]
    unfold F_H_spends_J38_4
    rw [C_fieldFor, Option.bind_some, M_spend hW, Option.bind_some]
    cases e : ffw lf wi W with
    | none =>
      refine ⟨-9, nI q, lf, nI (cN k + 1), sgN sg k, upd sp (sgN sg k (cN k)) 2, upd sl (sgN sg k (cN k)) (-9), sb, sf, upd sd (sgN sg k (cN k)) (nI q), rf, 0, nI 41, 1, 3, tuN tu k (evS (nI n) (nI m) (nI q) wt kd fg hm wi lf), cpf m_turnOf (evS (nI n) (nI m) (nI q) wt kd fg hm wi lf) 41, ?_, ?_, hS, hK, ⟨IP_N hP k, cN k + 1, cN_lt, rfl, ?_⟩, hL, hN⟩
      · show (F_Sps_noteField (nI k) sg sb sd sf sp sl (nI q) lf wi (-9)).bind _ = _
        rw [C_noteF9 hk8 hP, Option.bind_some, C_spend, Option.bind_some, e, spd_n e, spl_n e]
        rfl
      · rw [spd_n e, spl_n e]
        rfl
      · refine push hk8 hP hS hT (fun r hr => updN _ _ hr) (fun r hr => updN _ _ hr) (fun r hr => rfl) (fun r hr => rfl) (fun r hr => updN _ _ hr) ?_ ?_ ?_ ?_ ?_ ?_ ?_ ?_
        · rw [updA]
          intro e
          exact absurd e (by decide)
        · rw [updA]
          intro e
          exact absurd e (by decide)
        · exact Or.inr (Or.inr (updA _ _ _))
        · rw [updA, updA]
          exact if_pos rfl
        · rw [updA]
          exact if_neg (by decide)
        · rw [updA]
          exact if_neg (by decide)
        · rw [updA, updA, uFd_9]
        · rw [updA, updA, uFd_9]
    | some f =>
      obtain ⟨hf4, hf0, -⟩ := ffw_in e
      refine ⟨nI f, spd lf wi W (nI q), spl lf wi W, nI (cN k + 1), sgN sg k, upd sp (sgN sg k (cN k)) 2, upd sl (sgN sg k (cN k)) (nI f), upd sb (sgN sg k (cN k)) (wi f), upd sf (sgN sg k (cN k)) (lf f), upd sd (sgN sg k (cN k)) (nI q), rf, 0, nI 41, 1, 3, tuN tu k (evS (nI n) (nI m) (nI q) wt kd fg hm wi lf), cpf m_turnOf (evS (nI n) (nI m) (nI q) wt kd fg hm wi lf) 41, ?_, ?_, ?_, hK, ⟨IP_N hP k, cN k + 1, cN_lt, rfl, ?_⟩, hL, hN⟩
      · show (F_Sps_noteField (nI k) sg sb sd sf sp sl (nI q) lf wi (nI f)).bind _ = _
        rw [C_noteF hk8 hP _ _ _ _ _ _ _ _ hf4, Option.bind_some, C_spend, Option.bind_some, e]
        rfl
      · rfl
      · have hq2 : ∃ q2, q2 ≤ 999 ∧ spd lf wi W (nI q) = nI q2 := by
          rw [spd_y e]
          by_cases c : (999 : Int32) ≤ nI q
          · rw [if_pos c]
            exact ⟨q, hq, rfl⟩
          · rw [if_neg c]
            rw [i32_le, nI_toInt (by omega), show (999 : Int32).toInt = 999 by decide +kernel] at c
            exact ⟨q + 1, by omega, nI_1 q⟩
        obtain ⟨q2, hq2, eq2⟩ := hq2
        refine ⟨n, m, q2, hn, hm8, hq2, rfl, rfl, eq2, hw, ht, hd, fun j hj => ?_⟩
        rw [spl_y e]
        by_cases ej : j = f
        · subst ej
          obtain ⟨a, b, h1, h2, h3, h4⟩ := hf j hj
          have hb : 1 ≤ b := by
            rw [h4, i32_le, nI_toInt (by omega), Int32.toInt_zero] at hf0
            omega
          exact ⟨a, b - 1, h1, by omega, h3, by rw [updA, h4, sub1 hb]⟩
        · obtain ⟨a, b, h1, h2, h3, h4⟩ := hf j hj
          exact ⟨a, b, h1, h2, h3, by rw [updN _ _ ej, h4]⟩
      · refine push hk8 hP hS hT (fun r hr => updN _ _ hr) (fun r hr => updN _ _ hr) (fun r hr => updN _ _ hr) (fun r hr => updN _ _ hr) (fun r hr => updN _ _ hr) ?_ ?_ ?_ ?_ ?_ ?_ ?_ ?_
        · rw [updA]
          intro e
          exact absurd e (by decide)
        · rw [updA]
          intro e
          exact absurd e (by decide)
        · exact Or.inr (Or.inr (updA _ _ _))
        · rw [updA, updA]
          exact if_pos rfl
        · rw [updA]
          exact if_neg (by decide)
        · rw [updA]
          exact if_neg (by decide)
        · rw [updA, updA, updA, uFd_y hf4, updS]
        · rw [updA, updA, updA, uFd_y hf4, spl_y e, updU, updS]
  rcases inR x1 m (by omega) with ⟨d, hdm, rfl⟩ | h
  · by_cases c9 : x2 = 9
    · refine fin (LK go wt (hm d)) (LK_or go wt (hm d)) ?_ ?_
      · intro z hz
        rw [← hz]
        unfold F_H_spends F_Sta_spendRefusal
        rw [hasD_y hdm hm8, Option.bind_some, if_neg (by decide), c9, isW_n (show (9 : Int32) < 0 ∨ (¬ (9 : Int32) < 0 ∧ nI 6 ≤ 9) from Or.inr (by decide)), Option.bind_some, if_pos rfl, if_pos rfl, Option.bind_some, if_pos rfl, if_pos rfl, C_on hm8 hdm, Option.bind_some]
      · intro z hz
        rw [← hz]
        unfold F_M_spends F_M_spends_J37_6
        rw [isD_y hdm hm8, Option.bind_some, if_neg (by decide), if_pos c9, M_keep hk8, Option.bind_some, if_pos c9]
        show (F_M_likelyOn (nI n) fg hm kd wt (nI d)).bind _ = _
        rw [M_on hn hm8 ht hd hdm, Option.bind_some]
    · rcases inR x2 6 (by omega) with ⟨w, hw6, rfl⟩ | h
      · refine fin (nI w) (Or.inr ⟨w, hw6, rfl⟩) ?_ ?_
        · intro z hz
          rw [← hz]
          unfold F_H_spends F_Sta_spendRefusal
          rw [hasD_y hdm hm8, Option.bind_some, if_neg (by decide), isW_y hw6, Option.bind_some, if_neg (by decide), Option.bind_some, if_pos rfl, if_neg c9]
        · intro z hz
          rw [← hz]
          unfold F_M_spends F_M_spends_J37_6
          rw [isD_y hdm hm8, Option.bind_some, if_neg (by decide), if_neg c9, M_in0_y 6 5 hw6 (by omega) (by decide +kernel), Option.bind_some, if_neg (by decide), M_keep hk8, Option.bind_some, if_neg c9]
      · refine ref ?_ ?_
        · unfold F_Sta_spendRefusal
          rw [hasD_y hdm hm8, Option.bind_some, if_neg (by decide), isW_n h, Option.bind_some, if_pos rfl, if_neg c9]
        · intro z hz
          rw [← hz]
          unfold F_M_spends
          rw [isD_y hdm hm8, Option.bind_some, if_neg (by decide), if_neg c9, M_in0_n 6 5 h (by omega) (by omega) (by decide +kernel), Option.bind_some, if_pos rfl]
  · refine ref ?_ ?_
    · unfold F_Sta_spendRefusal
      rw [hasD_n h, Option.bind_some, if_pos rfl]
    · intro z hz
      rw [← hz]
      unfold F_M_spends
      rw [isD_n h hm8, Option.bind_some, if_pos rfl]
