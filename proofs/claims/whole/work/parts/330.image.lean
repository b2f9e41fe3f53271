-- image and restore
theorem va_cpf (f g : Nat → Int32) (n : Nat) : va_cpy f g 0 0 n = cpf g f n := by
  funext j
  unfold va_cpy cpf
  by_cases c : j < n
  · rw [if_pos c, if_pos (by omega), show 0 + (j - 0) = j by omega]
  · rw [if_neg c, if_neg (by omega)]
theorem C_copyS (l w fg go hm kd wt : Nat → Int32) (dy dn th : Int32) (l1 w1 fg1 go1 hm1 kd1 wt1 : Nat → Int32) : F_Sta_copyFrom l w fg go hm kd wt dy dn th l1 w1 fg1 go1 hm1 kd1 wt1 = some (dy, dn, th, cpf l l1 4, cpf w w1 4, cpf fg fg1 8, cpf go go1 8, cpf hm hm1 8, cpf kd kd1 8, cpf wt wt1 6) := by
  unfold F_Sta_copyFrom
  rw [C_copyF, Option.bind_some, va_cpf, va_cpf, va_cpf, va_cpf, va_cpf]
theorem IS_cong {th dy dn : Int32} {wt kd fg go hm wi lf : Nat → Int32} (h : IS th dy dn wt kd fg go hm wi lf) {wt2 kd2 fg2 go2 hm2 wi2 lf2 : Nat → Int32} (h1 : ∀ j, j < 6 → wt2 j = wt j) (h2 : ∀ j, j < 8 → kd2 j = kd j) (h3 : ∀ j, j < 8 → fg2 j = fg j) (h4 : ∀ j, j < 8 → go2 j = go j) (h5 : ∀ j, j < 8 → hm2 j = hm j) (h6 : ∀ j, j < 4 → wi2 j = wi j) (h7 : ∀ j, j < 4 → lf2 j = lf j) : IS th dy dn wt2 kd2 fg2 go2 hm2 wi2 lf2 := by
  obtain ⟨n, m, q, hn, hm8, hq, e1, e2, e3, hw, ht, hd, hf⟩ := h
  refine ⟨n, m, q, hn, hm8, hq, e1, e2, e3, fun j hj => ?_, fun j hj => ?_, fun j hj => ?_, fun j hj => ?_⟩
  · rw [h1 j hj]; exact hw j hj
  · rw [h2 j (by omega), h3 j (by omega), h4 j (by omega)]; exact ht j hj
  · rw [h5 j (by omega)]; exact hd j hj
  · rw [h6 j hj, h7 j hj]; exact hf j hj
theorem Enc_cong {a : Nat → Int32} {o : Nat} {th dy dn : Int32} {wt kd fg hm wi lf : Nat → Int32} (h : Enc a o th dy dn wt kd fg hm wi lf) {wt2 kd2 fg2 hm2 wi2 lf2 : Nat → Int32} (h1 : ∀ j, j < 6 → wt2 j = wt j) (h2 : ∀ j, j < 8 → kd2 j = kd j) (h3 : ∀ j, j < 8 → fg2 j = fg j) (h5 : ∀ j, j < 8 → hm2 j = hm j) (h6 : ∀ j, j < 4 → wi2 j = wi j) (h7 : ∀ j, j < 4 → lf2 j = lf j) : Enc a o th dy dn wt2 kd2 fg2 hm2 wi2 lf2 := by
  obtain ⟨e1, e2, e3, hw, ht, hf⟩ := h
  refine ⟨e1, e2, e3, fun j hj => ?_, fun j hj => ?_, fun j hj => ?_⟩
  · rw [h1 j hj]; exact hw j hj
  · rw [h2 j hj, h3 j hj, h5 j hj]; exact ht j hj
  · rw [h6 j hj, h7 j hj]; exact hf j hj
theorem P_image {hk : Int32} {th : Int32} {dy : Int32} {dn : Int32} {wt : Nat → Int32} {kd : Nat → Int32} {fg : Nat → Int32} {go : Nat → Int32} {hm : Nat → Int32} {wi : Nat → Int32} {lf : Nat → Int32} {kth : Int32} {kdy : Int32} {kdn : Int32} {kwt : Nat → Int32} {kkd : Nat → Int32} {kfg : Nat → Int32} {kgo : Nat → Int32} {khm : Nat → Int32} {kwi : Nat → Int32} {klf : Nat → Int32} {sc : Int32} {sg : Nat → Nat} {sp : Nat → Int32} {sl : Nat → Int32} {sb : Nat → Int32} {sf : Nat → Int32} {sd : Nat → Int32} {lc : Int32} {lt : Nat → Int32} {nc : Int32} {nu : Nat → Int32} {im : Nat → Int32} {tu : Nat → Int32} (hI : Inv th dy dn wt kd fg go hm wi lf hk kth kdy kdn kwt kkd kfg kgo khm kwi klf im sc sg sp sl sb sf sd tu lt lc nu nc) : ∃ (r : Int32) (hk' : Int32) (kth' : Int32) (kdy' : Int32) (kdn' : Int32) (kwt' : Nat → Int32) (kkd' : Nat → Int32) (kfg' : Nat → Int32) (kgo' : Nat → Int32) (khm' : Nat → Int32) (kwi' : Nat → Int32) (klf' : Nat → Int32) (m_thrown' : Int32) (m_place0' : Int32) (m_isTaking' : Int32) (m_keptIn' : Int32) (im' : Nat → Int32), F_H_image klf kwi kfg kgo khm kkd kwt dy dn th lf wi fg go hm kd wt = some (r, hk', kdy', kdn', kth', klf', kwi', kfg', kgo', khm', kkd', kwt') ∧ F_M_image dy dn th fg hm im kd lf wi wt = some (r, dy, dn, hk', m_isTaking', m_keptIn', m_place0', th, m_thrown', fg, hm, im', kd, lf, wi, wt) ∧ Inv th dy dn wt kd fg go hm wi lf hk' kth' kdy' kdn' kwt' kkd' kfg' kgo' khm' kwi' klf' im' sc sg sp sl sb sf sd tu lt lc nu nc := by
  obtain ⟨hS, hK, hT, hL, hN⟩ := hI
  refine ⟨dn, 1, th, dy, dn, cpf kwt wt 6, cpf kkd kd 8, cpf kfg fg 8, cpf kgo go 8, cpf khm hm 8, cpf kwi wi 4, cpf klf lf 4, 0, nI 41, 1, 2, cpf im (evS th dy dn wt kd fg hm wi lf) 41, ?_, ?_, hS, ?_, hT, hL, hN⟩
  · unfold F_H_image
    rw [C_copyS, Option.bind_some]
  · unfold F_M_image
    rw [TK_imaged, Option.bind_some]
  · refine Or.inr ⟨rfl, IS_cong hS (fun j hj => cpf_at hj) (fun j hj => cpf_at hj) (fun j hj => cpf_at hj) (fun j hj => cpf_at hj) (fun j hj => cpf_at hj) (fun j hj => cpf_at hj) (fun j hj => cpf_at hj), Enc_cong (evS_Enc im th dy dn wt kd fg hm wi lf) (fun j hj => cpf_at hj) (fun j hj => cpf_at hj) (fun j hj => cpf_at hj) (fun j hj => cpf_at hj) (fun j hj => cpf_at hj) (fun j hj => cpf_at hj)⟩
theorem P_restore {hk : Int32} {th : Int32} {dy : Int32} {dn : Int32} {wt : Nat → Int32} {kd : Nat → Int32} {fg : Nat → Int32} {go : Nat → Int32} {hm : Nat → Int32} {wi : Nat → Int32} {lf : Nat → Int32} {kth : Int32} {kdy : Int32} {kdn : Int32} {kwt : Nat → Int32} {kkd : Nat → Int32} {kfg : Nat → Int32} {kgo : Nat → Int32} {khm : Nat → Int32} {kwi : Nat → Int32} {klf : Nat → Int32} {sc : Int32} {sg : Nat → Nat} {sp : Nat → Int32} {sl : Nat → Int32} {sb : Nat → Int32} {sf : Nat → Int32} {sd : Nat → Int32} {lc : Int32} {lt : Nat → Int32} {nc : Int32} {nu : Nat → Int32} {rf : Nat → Int32} {m_place0 : Int32} {m_isTaking : Int32} {m_keptIn : Int32} {im : Nat → Int32} {tu : Nat → Int32} (hI : Inv th dy dn wt kd fg go hm wi lf hk kth kdy kdn kwt kkd kfg kgo khm kwi klf im sc sg sp sl sb sf sd tu lt lc nu nc) : ∃ (r : Int32) (th' : Int32) (dy' : Int32) (dn' : Int32) (wt' : Nat → Int32) (kd' : Nat → Int32) (fg' : Nat → Int32) (go' : Nat → Int32) (hm' : Nat → Int32) (wi' : Nat → Int32) (lf' : Nat → Int32) (sc' : Int32) (rf' : Nat → Int32) (m_thrown' : Int32) (m_place0' : Int32) (m_isTaking' : Int32) (m_keptIn' : Int32) (im' : Nat → Int32), F_H_restore hk kdy kdn kth klf kwi kfg kgo khm kkd kwt dy dn th lf wi fg go hm kd wt rf sc = some (r, dy', dn', th', lf', wi', fg', go', hm', kd', wt', rf', sc') ∧ F_M_restore dy dn hk m_isTaking m_keptIn m_place0 th sc fg hm im kd lf rf wi wt = some (r, dy', dn', m_isTaking', m_keptIn', m_place0', th', m_thrown', sc', fg', hm', im', kd', lf', rf', wi', wt') ∧ Inv th' dy' dn' wt' kd' fg' go' hm' wi' lf' hk kth kdy kdn kwt kkd kfg kgo khm kwi klf im' sc' sg sp sl sb sf sd tu lt lc nu nc := by
  have hI0 := hI
  obtain ⟨hS, hK, hT, hL, hN⟩ := hI
  rcases hK with rfl | ⟨rfl, hKS, hKE⟩
  · refine ⟨-3, th, dy, dn, wt, kd, fg, go, hm, wi, lf, sc, rfx rf 3, 0, m_place0, m_isTaking, m_keptIn, im, ?_, ?_, hI0⟩
    · rfl
    · rfl
  · refine ⟨kdn, kth, kdy, kdn, cpf wt kwt 6, cpf kd kkd 8, cpf fg kfg 8, cpf go kgo 8, cpf hm khm 8, cpf wi kwi 4, cpf lf klf 4, 0, rf, 0, nI 41, 0, 2, im, ?_, ?_, ?_, ?_, ⟨hT.1, 0, by omega, rfl, trivial⟩, hL, hN⟩
    · unfold F_H_restore
      rw [if_neg (by decide), C_copyS, Option.bind_some]
    · unfold F_M_restore
      rw [if_neg (by decide), AK_imaged hKE, Option.bind_some]
    · exact IS_cong hKS (fun j hj => cpf_at hj) (fun j hj => cpf_at hj) (fun j hj => cpf_at hj) (fun j hj => cpf_at hj) (fun j hj => cpf_at hj) (fun j hj => cpf_at hj) (fun j hj => cpf_at hj)
    · exact Or.inr ⟨rfl, hKS, hKE⟩
