-- hall
theorem neg1000 {q : Nat} (h : q ≤ 96) : ((-1000 : Int32) - nI q) < 0 := by
  have key : ∀ q : Fin 97, ((-1000 : Int32) - nI q.val) < 0 := by decide +kernel
  exact key ⟨q, by omega⟩
theorem neg2000 {q : Nat} (h : q ≤ 96) : ((-2000 : Int32) - nI q) < 0 := by
  have key : ∀ q : Fin 97, ((-2000 : Int32) - nI q.val) < 0 := by decide +kernel
  exact key ⟨q, by omega⟩
theorem sx_il {α β γ : Type} (f : α → γ) (g : β → γ) (a : α) : sx f g (Sum.inl a) = f a := rfl
theorem sx_ir {α β γ : Type} (f : α → γ) (g : β → γ) (b : β) : sx f g (Sum.inr b) = g b := rfl
theorem P_hall {hk : Int32} {th : Int32} {dy : Int32} {dn : Int32} {wt : Nat → Int32} {kd : Nat → Int32} {fg : Nat → Int32} {go : Nat → Int32} {hm : Nat → Int32} {wi : Nat → Int32} {lf : Nat → Int32} {kth : Int32} {kdy : Int32} {kdn : Int32} {kwt : Nat → Int32} {kkd : Nat → Int32} {kfg : Nat → Int32} {kgo : Nat → Int32} {khm : Nat → Int32} {kwi : Nat → Int32} {klf : Nat → Int32} {tth : Int32} {tdy : Int32} {tdn : Int32} {twt : Nat → Int32} {tkd : Nat → Int32} {tfg : Nat → Int32} {tgo : Nat → Int32} {thm : Nat → Int32} {twi : Nat → Int32} {tlf : Nat → Int32} {sc : Int32} {sg : Nat → Nat} {sp : Nat → Int32} {sl : Nat → Int32} {sb : Nat → Int32} {sf : Nat → Int32} {sd : Nat → Int32} {lc : Int32} {lt : Nat → Int32} {nc : Int32} {nu : Nat → Int32} {m_place0 : Int32} {m_isTaking : Int32} {m_keptIn : Int32} {m_placeIn : Nat → Int32} {m_letterOf : Nat → Int32} {m_told : Nat → Int32} {m_kept : Nat → Int32} {im : Nat → Int32} {tu : Nat → Int32} (hI : Inv th dy dn wt kd fg go hm wi lf hk kth kdy kdn kwt kkd kfg kgo khm kwi klf im sc sg sp sl sb sf sd tu lt lc nu nc) : ∃ (r : Int32) (th' : Int32) (dy' : Int32) (dn' : Int32) (wt' : Nat → Int32) (kd' : Nat → Int32) (fg' : Nat → Int32) (go' : Nat → Int32) (hm' : Nat → Int32) (wi' : Nat → Int32) (lf' : Nat → Int32) (tth' : Int32) (tdy' : Int32) (tdn' : Int32) (twt' : Nat → Int32) (tkd' : Nat → Int32) (tfg' : Nat → Int32) (tgo' : Nat → Int32) (thm' : Nat → Int32) (twi' : Nat → Int32) (tlf' : Nat → Int32) (sc' : Int32) (lc' : Int32) (m_thrown' : Int32) (m_at' : Int32) (m_isBad' : Int32) (m_statements' : Int32) (m_place0' : Int32) (m_isTaking' : Int32) (m_keptIn' : Int32) (m_placeIn' : Nat → Int32) (m_letterOf' : Nat → Int32) (m_told' : Nat → Int32) (m_kept' : Nat → Int32), F_H_hall lc lt dy dn th lf wi fg go hm kd wt sc tdy tdn tth tlf twi tfg tgo thm tkd twt = some (r, lc', dy', dn', th', lf', wi', fg', go', hm', kd', wt', sc', tdy', tdn', tth', tlf', twi', tfg', tgo', thm', tkd', twt') ∧ F_M_hall dy dn m_isTaking m_keptIn lc m_place0 th sc fg hm m_kept kd lf m_letterOf lt m_placeIn m_told wi wt = some (r, m_at', dy', dn', m_isBad', m_isTaking', m_keptIn', lc', m_place0', m_statements', th', m_thrown', sc', fg', hm', m_kept', kd', lf', m_letterOf', m_placeIn', m_told', wi', wt') ∧ Inv th' dy' dn' wt' kd' fg' go' hm' wi' lf' hk kth kdy kdn kwt kkd kfg kgo khm kwi klf im sc' sg sp sl sb sf sd tu lt lc' nu nc := by
  have hI0 := hI
  obtain ⟨hS, hK, ⟨hP, k, hk8, rfl, hT⟩, ⟨N, hN, rfl, hlt⟩, hN2⟩ := hI
  obtain ⟨L, hLd⟩ : ∃ L : Nat → Nat, L = fun i => (lt i).toNatClampNeg := ⟨_, rfl⟩
  have hL : ∀ p, p < N → lt p = nI (L p) ∧ L p ≤ 255 := by
    intro p hp
    obtain ⟨x, x1, x2⟩ := hlt p hp
    have e : L p = x := by
      rw [hLd]
      show (lt p).toNatClampNeg = x
      rw [x2, nI_clamp (by omega)]
    rw [e]
    exact ⟨x2, x1⟩
  have hL0 : IL 0 lt 96 255 := ⟨0, by omega, rfl, fun j hj => absurd hj (by omega)⟩
  have fail : ∀ (q : Nat) (lo pl td : Nat → Int32) (s : Int32), q ≤ 96 → F_Let_firstUnfit (nI N) lt = some (nI q) → wh (fun (s : (Int32) × (Int32) × (Int32) × (Nat → Int32) × (Nat → Int32) × (Nat → Int32)) => F_M_hall_L20 (nI N) lt s.1 s.2.1 s.2.2.1 s.2.2.2.1 s.2.2.2.2.1 s.2.2.2.2.2) 400 ((0 : Int32), (0 : Int32), (0 : Int32), m_letterOf, m_placeIn, m_told) = some (nI q, 1, s, lo, pl, td) → ∃ (r : Int32) (th' : Int32) (dy' : Int32) (dn' : Int32) (wt' : Nat → Int32) (kd' : Nat → Int32) (fg' : Nat → Int32) (go' : Nat → Int32) (hm' : Nat → Int32) (wi' : Nat → Int32) (lf' : Nat → Int32) (tth' : Int32) (tdy' : Int32) (tdn' : Int32) (twt' : Nat → Int32) (tkd' : Nat → Int32) (tfg' : Nat → Int32) (tgo' : Nat → Int32) (thm' : Nat → Int32) (twi' : Nat → Int32) (tlf' : Nat → Int32) (sc' : Int32) (lc' : Int32) (m_thrown' : Int32) (m_at' : Int32) (m_isBad' : Int32) (m_statements' : Int32) (m_place0' : Int32) (m_isTaking' : Int32) (m_keptIn' : Int32) (m_placeIn' : Nat → Int32) (m_letterOf' : Nat → Int32) (m_told' : Nat → Int32) (m_kept' : Nat → Int32), F_H_hall (nI N) lt dy dn th lf wi fg go hm kd wt (nI k) tdy tdn tth tlf twi tfg tgo thm tkd twt = some (r, lc', dy', dn', th', lf', wi', fg', go', hm', kd', wt', sc', tdy', tdn', tth', tlf', twi', tfg', tgo', thm', tkd', twt') ∧ F_M_hall dy dn m_isTaking m_keptIn (nI N) m_place0 th (nI k) fg hm m_kept kd lf m_letterOf lt m_placeIn m_told wi wt = some (r, m_at', dy', dn', m_isBad', m_isTaking', m_keptIn', lc', m_place0', m_statements', th', m_thrown', sc', fg', hm', m_kept', kd', lf', m_letterOf', m_placeIn', m_told', wi', wt') ∧ Inv th' dy' dn' wt' kd' fg' go' hm' wi' lf' hk kth kdy kdn kwt kkd kfg kgo khm kwi klf im sc' sg sp sl sb sf sd tu lt lc' nu nc := by
    intro q lo pl td s hq h1 h2
    have hv := neg1000 hq
    have eA : ∀ z, F_H_hall (nI N) lt dy dn th lf wi fg go hm kd wt (nI k) tdy tdn tth tlf twi tfg tgo thm tkd twt = z → z = (if ((-1000 : Int32) - nI q) < 0 then some ((-1000 : Int32) - nI q, 0, dy, dn, th, lf, wi, fg, go, hm, kd, wt, nI k, tdy, tdn, tth, tlf, twi, tfg, tgo, thm, tkd, twt) else (F_Sta_copyFrom lf wi fg go hm kd wt tdy tdn tth tlf twi tfg tgo thm tkd twt).bind (fun q_3 => (some ((-1000 : Int32) - nI q, 0, q_3.1, q_3.2.1, q_3.2.2.1, q_3.2.2.2.1, q_3.2.2.2.2.1, q_3.2.2.2.2.2.1, q_3.2.2.2.2.2.2.1, q_3.2.2.2.2.2.2.2.1, q_3.2.2.2.2.2.2.2.2.1, q_3.2.2.2.2.2.2.2.2.2, 0, tdy, tdn, tth, tlf, twi, tfg, tgo, thm, tkd, twt)))) := by
      intro z hz
      rw [← hz]
      unfold F_H_hall F_Let_tellInto
      rw [h1, Option.bind_some, if_neg (nI_ge0 (by omega)), Option.bind_some]
    have eB : ∀ z, F_M_hall dy dn m_isTaking m_keptIn (nI N) m_place0 th (nI k) fg hm m_kept kd lf m_letterOf lt m_placeIn m_told wi wt = z → z = some ((-1000 : Int32) - nI q, nI q, dy, dn, 1, m_isTaking, m_keptIn, 0, m_place0, s, th, 0, nI k, fg, hm, m_kept, kd, lf, lo, pl, td, wi, wt) := by
      intro z hz
      rw [← hz]
      unfold F_M_hall
      rw [h2, Option.bind_some]
      exact if_neg (show ¬ (1 : Int32) = 0 by decide)
    rw [eA _ rfl, eB _ rfl]
    generalize (-1000 : Int32) - nI q = v at hv
    refine ⟨v, th, dy, dn, wt, kd, fg, go, hm, wi, lf, tth, tdy, tdn, twt, tkd, tfg, tgo, thm, twi, tlf, nI k, 0, 0, nI q, 1, s, m_place0, m_isTaking, m_keptIn, pl, lo, td, m_kept, ?_, ?_, hS, hK, ⟨hP, k, hk8, rfl, hT⟩, hL0, hN2⟩
    · rw [if_pos hv]
    · rfl
  obtain ⟨M, hG, hM⟩ := pout (N := N) (L := L) N 0 (Nat.sub_le _ _) (fun j hj => absurd hj (by omega))
  have hpM := ps_N (N := N) M hG
  rcases hM with ⟨hM1, hMN⟩ | ⟨hb, hlt2⟩
  · have hfit := C_fitOK hN hL hG hM1 hMN
    obtain ⟨lo, pl, td, hrd, hR⟩ := M_readOK hN hL hG hM1 hMN m_letterOf m_placeIn m_told
    have hE := evS_Enc m_kept th dy dn wt kd fg hm wi lf
    have eH : ∀ z, F_H_hall (nI N) lt dy dn th lf wi fg go hm kd wt (nI k) tdy tdn tth tlf twi tfg tgo thm tkd twt = z → z = (((wh (fun (s : (Int32) × (Int32) × (Int32) × (Int32) × (Int32) × (Int32) × (Nat → Int32) × (Nat → Int32) × (Nat → Int32) × (Nat → Int32) × (Nat → Int32) × (Nat → Int32) × (Nat → Int32)) => F_Let_tellInto_L29 (nI N) lt s.1 s.2.1 s.2.2.1 s.2.2.2.1 s.2.2.2.2.1 s.2.2.2.2.2.1 s.2.2.2.2.2.2.1 s.2.2.2.2.2.2.2.1 s.2.2.2.2.2.2.2.2.1 s.2.2.2.2.2.2.2.2.2.1 s.2.2.2.2.2.2.2.2.2.2.1 s.2.2.2.2.2.2.2.2.2.2.2.1 s.2.2.2.2.2.2.2.2.2.2.2.2) (399 - N + (N - psN L 0) + 1) (nI 0, nI (psN L 0), nI (psN L 0), dy, dn, th, cpf tlf lf 4, cpf twi wi 4, cpf tfg fg 8, cpf tgo go 8, cpf thm hm 8, cpf tkd kd 8, cpf twt wt 6)).bind (sx (fun e_4 => (some (e_4.1, e_4.2.1, e_4.2.2.1, e_4.2.2.2.1, e_4.2.2.2.2.1, e_4.2.2.2.2.2.1, e_4.2.2.2.2.2.2.1, e_4.2.2.2.2.2.2.2.1, e_4.2.2.2.2.2.2.2.2.1, e_4.2.2.2.2.2.2.2.2.2.1, e_4.2.2.2.2.2.2.2.2.2.2))) (fun o => some o))).bind (fun q_1 => (if q_1.1 < 0 then (some (q_1.1, 0, dy, dn, th, lf, wi, fg, go, hm, kd, wt, nI k, q_1.2.1, q_1.2.2.1, q_1.2.2.2.1, q_1.2.2.2.2.1, q_1.2.2.2.2.2.1, q_1.2.2.2.2.2.2.1, q_1.2.2.2.2.2.2.2.1, q_1.2.2.2.2.2.2.2.2.1, q_1.2.2.2.2.2.2.2.2.2.1, q_1.2.2.2.2.2.2.2.2.2.2)) else (some (q_1.1, 0, q_1.2.1, q_1.2.2.1, q_1.2.2.2.1, cpf lf q_1.2.2.2.2.1 4, cpf wi q_1.2.2.2.2.2.1 4, cpf fg q_1.2.2.2.2.2.2.1 8, cpf go q_1.2.2.2.2.2.2.2.1 8, cpf hm q_1.2.2.2.2.2.2.2.2.1 8, cpf kd q_1.2.2.2.2.2.2.2.2.2.1 8, cpf wt q_1.2.2.2.2.2.2.2.2.2.2 6, 0, q_1.2.1, q_1.2.2.1, q_1.2.2.2.1, q_1.2.2.2.2.1, q_1.2.2.2.2.2.1, q_1.2.2.2.2.2.2.1, q_1.2.2.2.2.2.2.2.1, q_1.2.2.2.2.2.2.2.2.1, q_1.2.2.2.2.2.2.2.2.2.1, q_1.2.2.2.2.2.2.2.2.2.2))))) := by
      intro z hz
      rw [← hz]
      have e0 : psN L 0 = 0 := rfl
      unfold F_H_hall F_Let_tellInto
      rw [hfit, Option.bind_some, if_pos (show (-1 : Int32) < 0 by decide), C_copyS, Option.bind_some, e0, show 399 - N + (N - 0) + 1 = 400 by omega]
      congr 1
      funext q_1
      by_cases c : q_1.1 < 0
      · rw [if_pos c, if_pos c]
      · rw [if_neg c, if_neg c, C_copyS, Option.bind_some]
    have eM : ∀ z, F_M_hall dy dn m_isTaking m_keptIn (nI N) m_place0 th (nI k) fg hm m_kept kd lf m_letterOf lt m_placeIn m_told wi wt = z → z = ((wh (fun (s : (Int32) × (Int32) × (Int32) × (Int32) × (Nat → Int32) × (Nat → Int32) × (Nat → Int32) × (Nat → Int32) × (Nat → Int32) × (Nat → Int32)) => F_M_hall_L79 (nI k) (nI N, 0, nI M, lo, pl, td) (dy, dn, 1, 1, nI 41, th, fg, hm, cpf m_kept (evS th dy dn wt kd fg hm wi lf) 41, kd, lf, wi, wt) s.1 s.2.1 s.2.2.1 s.2.2.2.1 s.2.2.2.2.1 s.2.2.2.2.2.1 s.2.2.2.2.2.2.1 s.2.2.2.2.2.2.2.1 s.2.2.2.2.2.2.2.2.1 s.2.2.2.2.2.2.2.2.2) (399 - M + M + 1) (nI 0, dy, dn, th, fg, hm, kd, lf, wi, wt)).bind (sx (fun e_9 => (some (nI M, nI N, e_9.1, e_9.2.1, 0, 1, 1, 0, nI 41, nI M, e_9.2.2.1, 0, 0, e_9.2.2.2.1, e_9.2.2.2.2.1, cpf m_kept (evS th dy dn wt kd fg hm wi lf) 41, e_9.2.2.2.2.2.1, e_9.2.2.2.2.2.2.1, lo, pl, td, e_9.2.2.2.2.2.2.2.1, e_9.2.2.2.2.2.2.2.2))) (fun o => some o))) := by
      intro z hz
      rw [← hz]
      unfold F_M_hall
      rw [hrd, Option.bind_some, show 399 - M + M + 1 = 400 by omega]
      refine (if_pos (show (0 : Int32) = 0 from rfl)).trans ?_
      rw [M_think, Option.bind_some]
      rfl
    rcases hl_run hN hL hG hMN hR tlf twi tfg tgo thm tkd twt hE (nI k) M 0 th dy dn wt kd fg go hm wi lf (by omega) hS ⟨fun i _ => rfl, fun i _ => rfl, fun i _ => rfl, fun i _ => rfl, fun i _ => rfl, fun i _ => rfl, fun i _ => rfl⟩ with ⟨th2, dy2, dn2, wt2, kd2, fg2, go2, hm2, wi2, lf2, n1, n2, n3, n4⟩ | ⟨i, hi, th2, dy2, dn2, wt2, kd2, fg2, go2, hm2, wi2, lf2, n3, n4⟩
    · obtain ⟨a1, a2, a3, a4, a5, a6, a7⟩ := n2
      have B : ∀ (x t y : Nat → Int32) (n : Nat), (∀ i, n ≤ i → y i = x i) → cpf x (cpf t y n) n = y := fun x t y n h => cpf_back (fun j hj => cpf_at hj) (fun j hj => (h j hj).symm)
      refine ⟨nI M, th2, dy2, dn2, wt2, kd2, fg2, go2, hm2, wi2, lf2, th2, dy2, dn2, cpf twt wt2 6, cpf tkd kd2 8, cpf tfg fg2 8, cpf tgo go2 8, cpf thm hm2 8, cpf twi wi2 4, cpf tlf lf2 4, 0, 0, 0, nI N, 0, nI M, nI 41, 1, 1, pl, lo, td, cpf m_kept (evS th dy dn wt kd fg hm wi lf) 41, ?_, ?_, n1, hK, ⟨hP, 0, by omega, rfl, trivial⟩, hL0, hN2⟩
      · rw [eH _ rfl, n3, Option.bind_some, sx_il, Option.bind_some, if_neg (show ¬ nI M < 0 from nI_ge0 (by omega))]
        rw [B lf tlf lf2 4 a7, B wi twi wi2 4 a6, B fg tfg fg2 8 a3, B go tgo go2 8 a4, B hm thm hm2 8 a5, B kd tkd kd2 8 a2, B wt twt wt2 6 a1]
      · rw [eM _ rfl, n4, Option.bind_some, sx_il]
    · have hpi := (gdS_y (hG i hi)).1
      have hv : ((-2000 : Int32) - nI (psN L i)) < 0 := neg2000 (by omega)
      have n3' := n3 (399 - N)
      have n4' := n4 (399 - M)
      generalize (-2000 : Int32) - nI (psN L i) = v at hv n3' n4'
      refine ⟨v, th, dy, dn, wt, kd, fg, go, hm, wi, lf, th2, dy2, dn2, wt2, kd2, fg2, go2, hm2, wi2, lf2, nI k, 0, 0, nI N, 0, nI M, nI 41, 0, 1, pl, lo, td, cpf m_kept (evS th dy dn wt kd fg hm wi lf) 41, ?_, ?_, hS, hK, ⟨hP, k, hk8, rfl, hT⟩, hL0, hN2⟩
      · rw [eH _ rfl, n3', Option.bind_some, sx_ir, Option.bind_some, if_pos hv]
      · rw [eM _ rfl, n4', Option.bind_some, sx_ir]
  · by_cases c0 : psN L M < N
    · obtain ⟨lo, pl, td, hrd⟩ := M_readNo hN hL hG hb c0 m_letterOf m_placeIn m_told
      exact fail (bq N L (psN L M)) lo pl td (nI (M + 1)) (Nat.le_trans (bq_le c0) hN) (C_fitNo hN hL hG hb c0) hrd
    · obtain rfl : N = 0 := by omega
      obtain ⟨lo, pl, td, hrd⟩ := M_read0 lt m_letterOf m_placeIn m_told
      refine fail 0 lo pl td (nI 1) (by omega) ?_ hrd
      rfl
