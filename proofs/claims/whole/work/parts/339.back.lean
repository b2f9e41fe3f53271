-- back
theorem C_tb {k m : Nat} (hk : k < 8) (hm8 : m ≤ 8) {sg : Nat → Nat} (hP : IP sg) (sb sd sf sp sl : Nat → Int32) (dn : Int32) (lf wi hm wt : Nat → Int32) (i0 : sp (sg k) = 0 → 0 ≤ sl (sg k) ∧ sl (sg k) < 6) (i1 : sp (sg k) = 1 → 0 ≤ sl (sg k) ∧ sl (sg k) < nI m) (i2 : sp (sg k) = 0 ∨ sp (sg k) = 1 ∨ sp (sg k) = 2) : F_Sps_takeBack (nI (k + 1)) sg sb sd sf sp sl (nI m) dn lf wi hm wt = some (nI k, nI k, uDn (sp (sg k)) (sd (sg k)) dn, uFd (sp (sg k)) (sl (sg k)) (sf (sg k)) lf, uFd (sp (sg k)) (sl (sg k)) (sb (sg k)) wi, uHm (sp (sg k)) (sl (sg k)) (sb (sg k)) hm, uWt (sp (sg k)) (sl (sg k)) (sb (sg k)) wt) := by
  have e : nI (k + 1) - 1 = nI k := by rw [← nI_1, Int32.add_sub_cancel]
  have hr : sg k < 8 := hP.1 k hk
  unfold F_Sps_takeBack
  rw [if_neg (show ¬ nI (k + 1) < 1 by rw [i32_lt, nI_toInt (by omega), show (1 : Int32).toInt = 1 by decide +kernel]; omega), if_pos (show nI (k + 1) ≤ 8 by rw [i32_le, nI_toInt (by omega), show (8 : Int32).toInt = 8 by decide +kernel]; omega), e, ck_nI _ hk (by omega), nI_clamp (show k < 2 ^ 31 by omega), ckN_in hr]
  rcases i2 with c | c | c
  · have h := i0 c
    rw [c] at *
    rcases inR (sl (sg k)) 6 (by omega) with ⟨x, hx, ex⟩ | h2 | ⟨-, h2⟩
    · rw [if_pos rfl, ex]
      unfold F_Sta_reweigh uDn uFd uHm uWt
      rw [isW_y hx, Option.bind_some, if_neg (by decide), ck_nI _ hx (by omega), Option.bind_some, if_neg (by decide), if_neg (fun e => absurd e.1 (by decide)), if_neg (fun e => absurd e.1 (by decide)), if_neg (by decide), if_pos rfl]
    · rw [i32_lt] at h2
      rw [i32_le] at h
      omega
    · rw [i32_le, nI_toInt (by omega)] at h2
      rw [i32_lt, show (6 : Int32).toInt = 6 by decide +kernel] at h
      omega
  · have h := i1 c
    rw [c] at *
    rcases inR (sl (sg k)) m (by omega) with ⟨x, hx, ex⟩ | h2 | ⟨-, h2⟩
    · rw [if_neg (by decide), if_pos rfl, ex]
      unfold uDn uFd uHm uWt
      rw [hasD_y hx hm8, Option.bind_some, if_neg (by decide), ck_nI _ (show x < 8 by omega) (by omega), if_neg (by decide), if_neg (fun e => absurd e.1 (by decide)), if_neg (fun e => absurd e.1 (by decide)), if_pos rfl, if_neg (by decide)]
    · rw [i32_lt] at h2
      rw [i32_le] at h
      omega
    · rw [i32_le, nI_toInt (by omega)] at h2
      rw [i32_lt, nI_toInt (by omega)] at h
      omega
  · unfold F_Sps_takeBack_J99_7
    rw [e, nI_clamp (show k < 2 ^ 31 by omega), ckN_in hr]
    rw [c] at *
    rw [if_neg (by decide), if_neg (by decide), if_pos rfl]
    unfold F_Fld_become uDn uHm uWt
    rcases inR (sl (sg k)) 4 (by omega) with ⟨x, hx, ex⟩ | h
    · rw [ex, uFd_y hx, uFd_y hx, isF_y hx, Option.bind_some, if_neg (by decide), ck_nI _ hx (by omega), ck_nI _ hx (by omega), nI_clamp (show x < 2 ^ 31 by omega), Option.bind_some, if_pos rfl, if_neg (by decide), if_neg (by decide)]
    · have hn : ∀ (b : Int32) (a : Nat → Int32), uFd 2 (sl (sg k)) b a = a := by
        intro b a
        refine if_neg (fun e => ?_)
        rcases h with h | ⟨-, h⟩
        · have := e.2.1
          rw [i32_lt] at h
          rw [i32_le] at this
          omega
        · have := e.2.2
          rw [i32_le, nI_toInt (by omega)] at h
          rw [i32_lt, show (4 : Int32).toInt = 4 by decide +kernel] at this
          omega
      rw [hn, hn, isF_n h, Option.bind_some, if_pos rfl, Option.bind_some, if_pos rfl, if_neg (by decide), if_neg (by decide)]
theorem clampL {x : Int32} {N : Nat} (hN : N < 2 ^ 31) (h0 : 0 ≤ x) (h1 : x < nI N) : x.toNatClampNeg < N := by
  rcases inR x N (by omega) with ⟨y, hy, rfl⟩ | h2 | ⟨-, h2⟩
  · rw [nI_clamp (by omega)]
    exact hy
  · rw [i32_lt] at h2
    rw [i32_le] at h0
    omega
  · rw [i32_le] at h2
    rw [i32_lt] at h1
    omega
theorem P_back {hk : Int32} {th : Int32} {dy : Int32} {dn : Int32} {wt : Nat → Int32} {kd : Nat → Int32} {fg : Nat → Int32} {go : Nat → Int32} {hm : Nat → Int32} {wi : Nat → Int32} {lf : Nat → Int32} {kth : Int32} {kdy : Int32} {kdn : Int32} {kwt : Nat → Int32} {kkd : Nat → Int32} {kfg : Nat → Int32} {kgo : Nat → Int32} {khm : Nat → Int32} {kwi : Nat → Int32} {klf : Nat → Int32} {sc : Int32} {sg : Nat → Nat} {sp : Nat → Int32} {sl : Nat → Int32} {sb : Nat → Int32} {sf : Nat → Int32} {sd : Nat → Int32} {lc : Int32} {lt : Nat → Int32} {nc : Int32} {nu : Nat → Int32} {rf : Nat → Int32} {m_place0 : Int32} {m_isTaking : Int32} {m_keptIn : Int32} {im : Nat → Int32} {tu : Nat → Int32} {m_turnOf : Nat → Int32} (hI : Inv th dy dn wt kd fg go hm wi lf hk kth kdy kdn kwt kkd kfg kgo khm kwi klf im sc sg sp sl sb sf sd tu lt lc nu nc) : ∃ (r : Int32) (dn' : Int32) (wt' : Nat → Int32) (hm' : Nat → Int32) (wi' : Nat → Int32) (lf' : Nat → Int32) (sc' : Int32) (rf' : Nat → Int32) (m_thrown' : Int32) (m_place0' : Int32) (m_isTaking' : Int32) (m_keptIn' : Int32) (m_turnOf' : Nat → Int32), F_H_back dy dn lf wi hm wt rf sc sg sb sd sf sp sl = some (r, dn', lf', wi', hm', wt', rf', sc') ∧ F_M_back dy dn m_isTaking m_keptIn m_place0 th sc fg hm kd lf rf m_turnOf tu wi wt = some (r, dy, dn', m_isTaking', m_keptIn', m_place0', th, m_thrown', sc', fg, hm', kd, lf', rf', m_turnOf', wi', wt') ∧ Inv th dy dn' wt' kd fg go hm' wi' lf' hk kth kdy kdn kwt kkd kfg kgo khm kwi klf im sc' sg sp sl sb sf sd tu lt lc nu nc := by
  have hI0 := hI
  obtain ⟨⟨n, m, q, hn, hm8, hq, rfl, rfl, rfl, hw, ht, hd, hf⟩, hK, ⟨hP, k, hk8, rfl, hT⟩, hL, hN⟩ := hI
  cases k with
  | zero =>
    refine ⟨-3, nI q, wt, hm, wi, lf, nI 0, rfx rf 3, 0, m_place0, m_isTaking, m_keptIn, m_turnOf, ?_, ?_, hI0⟩
    · unfold F_H_back
      rw [if_pos (show nI 0 = 0 from rfl)]
      rfl
    · unfold F_M_back
      rw [if_pos (show nI 0 = 0 from rfl)]
      rfl
  | succ k =>
    unfold IT at hT
    obtain ⟨i0, i1, i2, hS2, hE, hT2⟩ := hT
    have e : nI (k + 1) - 1 = nI k := by rw [← nI_1, Int32.add_sub_cancel]
    have ne0 : ¬ nI (k + 1) = 0 := neC 0 0 (show k + 1 ≠ 0 by omega) (by omega) (by omega) rfl
    refine ⟨nI k, uDn (sp (sg k)) (sd (sg k)) (nI q), uWt (sp (sg k)) (sl (sg k)) (sb (sg k)) wt, uHm (sp (sg k)) (sl (sg k)) (sb (sg k)) hm, uFd (sp (sg k)) (sl (sg k)) (sb (sg k)) wi, uFd (sp (sg k)) (sl (sg k)) (sf (sg k)) lf, nI k, rf, 0, nI 41, 0, 3, cpf m_turnOf (fun j => tu (41 * k + j)) 41, ?_, ?_, hS2, hK, ⟨hP, k, by omega, rfl, hT2⟩, hL, hN⟩
    · unfold F_H_back
      rw [if_neg ne0, C_tb (by omega) hm8 hP sb sd sf sp sl (nI q) lf wi hm wt i0 i1 i2, Option.bind_some]
    · have hL : wh (fun (s : (Int32) × (Nat → Int32)) => F_M_back_L31 (nI (k + 1)) tu s.1 s.2) 400 ((0 : Int32), cpf m_turnOf (fun j => tu (41 * k + j)) 0) = some (cpf m_turnOf (fun j => tu (41 * k + j)) 41) := by
        refine wh_for (fun i => (nI i, cpf m_turnOf (fun j => tu (41 * k + j)) i)) 41 (cpf m_turnOf (fun j => tu (41 * k + j)) 41) (fun i hi => ?_) ?_ 400 (by omega)
        · show F_M_back_L31 (nI (k + 1)) tu (nI i) (cpf m_turnOf (fun j => tu (41 * k + j)) i) = some (Sum.inl (nI (i + 1), cpf m_turnOf (fun j => tu (41 * k + j)) (i + 1)))
          unfold F_M_back_L31
          rw [if_neg (nleC 41 41 hi (by omega) rfl), e, mul41 (show k < 8 by omega) hi, ck_nI _ (show 41 * k + i < 328 by omega) (by omega), ck_nI _ hi (by omega), nI_clamp (show i < 2 ^ 31 by omega), nI_clamp (show 41 * k + i < 2 ^ 31 by omega), nI_1, ← cpf_s m_turnOf (fun j => tu (41 * k + j)) i]
        · rfl
      rw [cpf_0] at hL
      have T : ∀ p, p < 41 → cpf m_turnOf (fun j => tu (41 * k + j)) 41 p = tu (41 * k + p) := fun p hp => cpf_at hp
      have hE2 : Enc (cpf m_turnOf (fun j => tu (41 * k + j)) 41) 0 (nI n) (nI m) (uDn (sp (sg k)) (sd (sg k)) (nI q)) (uWt (sp (sg k)) (sl (sg k)) (sb (sg k)) wt) kd fg (uHm (sp (sg k)) (sl (sg k)) (sb (sg k)) hm) (uFd (sp (sg k)) (sl (sg k)) (sb (sg k)) wi) (uFd (sp (sg k)) (sl (sg k)) (sf (sg k)) lf) := by
        obtain ⟨c1, c2, c3, c4, c5, c6⟩ := hE
        refine ⟨?_, ?_, ?_, fun j hj => ?_, fun j hj => ⟨?_, ?_, ?_⟩, fun j hj => ⟨?_, ?_⟩⟩
        · rw [T _ (by omega), ← c1]; rfl
        · rw [T _ (by omega), ← c2]
        · rw [T _ (by omega), ← c3]
        · rw [T _ (by omega), ← c4 j hj, show 41 * k + (0 + 3 + j) = 41 * k + 3 + j by omega]
        · rw [T _ (by omega), ← (c5 j hj).1, show 41 * k + (0 + 9 + 3 * j) = 41 * k + 9 + 3 * j by omega]
        · rw [T _ (by omega), ← (c5 j hj).2.1, show 41 * k + (0 + 10 + 3 * j) = 41 * k + 10 + 3 * j by omega]
        · rw [T _ (by omega), ← (c5 j hj).2.2, show 41 * k + (0 + 11 + 3 * j) = 41 * k + 11 + 3 * j by omega]
        · rw [T _ (by omega), ← (c6 j hj).1, show 41 * k + (0 + 33 + 2 * j) = 41 * k + 33 + 2 * j by omega]
        · rw [T _ (by omega), ← (c6 j hj).2, show 41 * k + (0 + 34 + 2 * j) = 41 * k + 34 + 2 * j by omega]
      have eW : cpf wt (uWt (sp (sg k)) (sl (sg k)) (sb (sg k)) wt) 6 = uWt (sp (sg k)) (sl (sg k)) (sb (sg k)) wt := by
        refine cpf_back (fun _ _ => rfl) (fun j hj => ?_)
        unfold uWt
        by_cases c : sp (sg k) = 0
        · have := i0 c
          have := clampL (N := 6) (by omega) this.1 this.2
          rw [if_pos c, updN _ _ (by omega)]
        · rw [if_neg c]
      have eH : cpf hm (uHm (sp (sg k)) (sl (sg k)) (sb (sg k)) hm) 8 = uHm (sp (sg k)) (sl (sg k)) (sb (sg k)) hm := by
        refine cpf_back (fun _ _ => rfl) (fun j hj => ?_)
        unfold uHm
        by_cases c : sp (sg k) = 1
        · have := i1 c
          have := clampL (N := m) (by omega) this.1 this.2
          rw [if_pos c, updN _ _ (by omega)]
        · rw [if_neg c]
      have eF : ∀ (b : Int32) (a : Nat → Int32), cpf a (uFd (sp (sg k)) (sl (sg k)) b a) 4 = uFd (sp (sg k)) (sl (sg k)) b a := by
        intro b a
        refine cpf_back (fun _ _ => rfl) (fun j hj => ?_)
        unfold uFd
        by_cases c : sp (sg k) = 2 ∧ 0 ≤ sl (sg k) ∧ sl (sg k) < 4
        · have := clampL (N := 4) (by omega) c.2.1 c.2.2
          rw [if_pos c, updN _ _ (by omega)]
        · rw [if_neg c]
      unfold F_M_back
      rw [if_neg ne0, hL, Option.bind_some, AK_turnOf hE2, Option.bind_some, e]
      show some (nI k, nI m, uDn (sp (sg k)) (sd (sg k)) (nI q), 0, 3, nI 41, nI n, 0, nI k, cpf fg fg 8, cpf hm _ 8, cpf kd kd 8, cpf lf _ 4, rf, _, cpf wi _ 4, cpf wt _ 6) = _
      rw [cpf_id, cpf_id, eW, eH, eF, eF]
