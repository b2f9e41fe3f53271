-- halls: statement by statement
theorem C_end {N p j : Nat} {L : Nat → Nat} {lt : Nat → Int32} (hN : N ≤ 96) (hL : ∀ p, p < N → lt p = nI (L p) ∧ L p ≤ 255) (hg : gdS N L p = true) (X : Nat) (dy dn th : Int32) (lf wi fg go hm kd wt : Nat → Int32) : wh (fun (s : (Int32) × (Int32) × (Int32) × (Int32) × (Int32) × (Int32) × (Nat → Int32) × (Nat → Int32) × (Nat → Int32) × (Nat → Int32) × (Nat → Int32) × (Nat → Int32) × (Nat → Int32)) => F_Let_tellInto_L29 (nI N) lt s.1 s.2.1 s.2.2.1 s.2.2.2.1 s.2.2.2.2.1 s.2.2.2.2.2.1 s.2.2.2.2.2.2.1 s.2.2.2.2.2.2.2.1 s.2.2.2.2.2.2.2.2.1 s.2.2.2.2.2.2.2.2.2.1 s.2.2.2.2.2.2.2.2.2.2.1 s.2.2.2.2.2.2.2.2.2.2.2.1 s.2.2.2.2.2.2.2.2.2.2.2.2) (X + (dgb (L p) + 1)) (nI j, nI p, nI p, dy, dn, th, lf, wi, fg, go, hm, kd, wt) = wh (fun (s : (Int32) × (Int32) × (Int32) × (Int32) × (Int32) × (Int32) × (Nat → Int32) × (Nat → Int32) × (Nat → Int32) × (Nat → Int32) × (Nat → Int32) × (Nat → Int32) × (Nat → Int32)) => F_Let_tellInto_L29 (nI N) lt s.1 s.2.1 s.2.2.1 s.2.2.2.1 s.2.2.2.2.1 s.2.2.2.2.2.1 s.2.2.2.2.2.2.1 s.2.2.2.2.2.2.2.1 s.2.2.2.2.2.2.2.2.1 s.2.2.2.2.2.2.2.2.2.1 s.2.2.2.2.2.2.2.2.2.2.1 s.2.2.2.2.2.2.2.2.2.2.2.1 s.2.2.2.2.2.2.2.2.2.2.2.2) X (nI j, nI p, nI (p + (dgb (L p) + 1)), dy, dn, th, lf, wi, fg, go, hm, kd, wt) := by
  obtain ⟨g1, g2, g3, g4, g5⟩ := gdS_y hg
  refine wh_stp (f := fun (s : (Int32) × (Int32) × (Int32) × (Int32) × (Int32) × (Int32) × (Nat → Int32) × (Nat → Int32) × (Nat → Int32) × (Nat → Int32) × (Nat → Int32) × (Nat → Int32) × (Nat → Int32)) => F_Let_tellInto_L29 (nI N) lt s.1 s.2.1 s.2.2.1 s.2.2.2.1 s.2.2.2.2.1 s.2.2.2.2.2.1 s.2.2.2.2.2.2.1 s.2.2.2.2.2.2.2.1 s.2.2.2.2.2.2.2.2.1 s.2.2.2.2.2.2.2.2.2.1 s.2.2.2.2.2.2.2.2.2.2.1 s.2.2.2.2.2.2.2.2.2.2.2.1 s.2.2.2.2.2.2.2.2.2.2.2.2) (fun t => (nI j, nI p, nI (p + t), dy, dn, th, lf, wi, fg, go, hm, kd, wt)) (dgb (L p) + 1) X (fun t ht => ?_)
  show F_Let_tellInto_L29 (nI N) lt (nI j) (nI p) (nI (p + t)) dy dn th lf wi fg go hm kd wt = some (Sum.inl (nI j, nI p, nI (p + (t + 1)), dy, dn, th, lf, wi, fg, go, hm, kd, wt))
  have hlt : p + t < N := by omega
  have hne : L (p + t) ≠ 59 := by
    cases t with
    | zero =>
      intro e
      rw [Nat.add_zero] at e
      rw [e] at g2
      exact g2 rfl
    | succ t =>
      have := dig_y (zd_lt (N := N) (L := L) 5 (p + 1) t (by omega))
      rw [show p + 1 + t = p + (t + 1) by omega] at this
      omega
  unfold F_Let_tellInto_L29
  rw [if_neg (nI_leN hlt (by omega)), C_at hN (by omega), Option.bind_some, la, if_pos hlt, (hL _ hlt).1, if_neg (show ¬ nI (L (p + t)) = 59 from neC 59 59 hne (by have := (hL _ hlt).2; omega) (by omega) rfl), nI_1]
  rfl
theorem hl_run {N M : Nat} {L : Nat → Nat} {lt lo pl td : Nat → Int32} (hN : N ≤ 96) (hL : ∀ p, p < N → lt p = nI (L p) ∧ L p ≤ 255) (hG : ∀ j, j < M → gdS N L (psN L j) = true) (hMN : psN L M = N) (hR : rdS N L lt lo pl td M) (tlf twi tfg tgo thm tkd twt : Nat → Int32) {th0 dy0 dn0 : Int32} {wt0 kd0 fg0 go0 hm0 wi0 lf0 K : Nat → Int32} (hE : Enc K 0 th0 dy0 dn0 wt0 kd0 fg0 hm0 wi0 lf0) (sc : Int32) : ∀ (r j : Nat) (th dy dn : Int32) (wt kd fg go hm wi lf : Nat → Int32), j + r = M → IS th dy dn wt kd fg go hm wi lf → hOut wt0 kd0 fg0 go0 hm0 wi0 lf0 wt kd fg go hm wi lf →
    (∃ (th' dy' dn' : Int32) (wt' kd' fg' go' hm' wi' lf' : Nat → Int32), IS th' dy' dn' wt' kd' fg' go' hm' wi' lf' ∧ hOut wt0 kd0 fg0 go0 hm0 wi0 lf0 wt' kd' fg' go' hm' wi' lf' ∧ (∀ X, wh (fun (s : (Int32) × (Int32) × (Int32) × (Int32) × (Int32) × (Int32) × (Nat → Int32) × (Nat → Int32) × (Nat → Int32) × (Nat → Int32) × (Nat → Int32) × (Nat → Int32) × (Nat → Int32)) => F_Let_tellInto_L29 (nI N) lt s.1 s.2.1 s.2.2.1 s.2.2.2.1 s.2.2.2.2.1 s.2.2.2.2.2.1 s.2.2.2.2.2.2.1 s.2.2.2.2.2.2.2.1 s.2.2.2.2.2.2.2.2.1 s.2.2.2.2.2.2.2.2.2.1 s.2.2.2.2.2.2.2.2.2.2.1 s.2.2.2.2.2.2.2.2.2.2.2.1 s.2.2.2.2.2.2.2.2.2.2.2.2) (X + (N - psN L j) + 1) (nI j, nI (psN L j), nI (psN L j), dy, dn, th, cpf tlf lf 4, cpf twi wi 4, cpf tfg fg 8, cpf tgo go 8, cpf thm hm 8, cpf tkd kd 8, cpf twt wt 6) = some (Sum.inl (nI M, dy', dn', th', cpf tlf lf' 4, cpf twi wi' 4, cpf tfg fg' 8, cpf tgo go' 8, cpf thm hm' 8, cpf tkd kd' 8, cpf twt wt' 6))) ∧ (∀ X, wh (fun (s : (Int32) × (Int32) × (Int32) × (Int32) × (Nat → Int32) × (Nat → Int32) × (Nat → Int32) × (Nat → Int32) × (Nat → Int32) × (Nat → Int32)) => F_M_hall_L79 sc (nI N, 0, nI M, lo, pl, td) (dy0, dn0, 1, 1, nI 41, th0, fg0, hm0, K, kd0, lf0, wi0, wt0) s.1 s.2.1 s.2.2.1 s.2.2.2.1 s.2.2.2.2.1 s.2.2.2.2.2.1 s.2.2.2.2.2.2.1 s.2.2.2.2.2.2.2.1 s.2.2.2.2.2.2.2.2.1 s.2.2.2.2.2.2.2.2.2) (X + r + 1) (nI j, dy, dn, th, fg, hm, kd, lf, wi, wt) = some (Sum.inl (dy', dn', th', fg', hm', kd', lf', wi', wt'))))
    ∨ (∃ i, i < M ∧ ∃ (th' dy' dn' : Int32) (wt' kd' fg' go' hm' wi' lf' : Nat → Int32), (∀ X, wh (fun (s : (Int32) × (Int32) × (Int32) × (Int32) × (Int32) × (Int32) × (Nat → Int32) × (Nat → Int32) × (Nat → Int32) × (Nat → Int32) × (Nat → Int32) × (Nat → Int32) × (Nat → Int32)) => F_Let_tellInto_L29 (nI N) lt s.1 s.2.1 s.2.2.1 s.2.2.2.1 s.2.2.2.2.1 s.2.2.2.2.2.1 s.2.2.2.2.2.2.1 s.2.2.2.2.2.2.2.1 s.2.2.2.2.2.2.2.2.1 s.2.2.2.2.2.2.2.2.2.1 s.2.2.2.2.2.2.2.2.2.2.1 s.2.2.2.2.2.2.2.2.2.2.2.1 s.2.2.2.2.2.2.2.2.2.2.2.2) (X + (N - psN L j) + 1) (nI j, nI (psN L j), nI (psN L j), dy, dn, th, cpf tlf lf 4, cpf twi wi 4, cpf tfg fg 8, cpf tgo go 8, cpf thm hm 8, cpf tkd kd 8, cpf twt wt 6) = some (Sum.inr (((-2000) : Int32) - nI (psN L i), dy', dn', th', lf', wi', fg', go', hm', kd', wt'))) ∧ (∀ X, wh (fun (s : (Int32) × (Int32) × (Int32) × (Int32) × (Nat → Int32) × (Nat → Int32) × (Nat → Int32) × (Nat → Int32) × (Nat → Int32) × (Nat → Int32)) => F_M_hall_L79 sc (nI N, 0, nI M, lo, pl, td) (dy0, dn0, 1, 1, nI 41, th0, fg0, hm0, K, kd0, lf0, wi0, wt0) s.1 s.2.1 s.2.2.1 s.2.2.2.1 s.2.2.2.2.1 s.2.2.2.2.2.1 s.2.2.2.2.2.2.1 s.2.2.2.2.2.2.2.1 s.2.2.2.2.2.2.2.2.1 s.2.2.2.2.2.2.2.2.2) (X + r + 1) (nI j, dy, dn, th, fg, hm, kd, lf, wi, wt) = some (Sum.inr (((-2000) : Int32) - nI (psN L i), nI N, dy0, dn0, 0, 0, 1, 0, nI 41, nI M, th0, 0, sc, fg0, hm0, K, kd0, lf0, lo, pl, td, wi0, wt0))))
  | 0, j, th, dy, dn, wt, kd, fg, go, hm, wi, lf, hj, hS, hO => by
    obtain rfl : j = M := by omega
    have hM := ps_N (N := N) j hG
    refine Or.inl ⟨th, dy, dn, wt, kd, fg, go, hm, wi, lf, hS, hO, fun X => ?_, fun X => ?_⟩
    · refine wh_inr ?_
      show F_Let_tellInto_L29 (nI N) lt (nI j) (nI (psN L j)) (nI (psN L j)) dy dn th _ _ _ _ _ _ _ = _
      unfold F_Let_tellInto_L29
      rw [hMN, if_pos (nI_le (Nat.le_refl N) (by omega))]
    · refine wh_inr ?_
      show F_M_hall_L79 sc (nI N, 0, nI j, lo, pl, td) (dy0, dn0, 1, 1, nI 41, th0, fg0, hm0, K, kd0, lf0, wi0, wt0) (nI j) dy dn th fg hm kd lf wi wt = _
      unfold F_M_hall_L79
      exact if_pos (by show nI j ≤ nI j; rw [i32_le]; omega)
  | r + 1, j, th, dy, dn, wt, kd, fg, go, hm, wi, lf, hj, hS, hO => by
    have hg := hG j (by omega)
    obtain ⟨g1, g2, g3, g4, g5⟩ := gdS_y hg
    have hM := ps_N (N := N) M hG
    obtain ⟨r1, r2, r3⟩ := hR j (by omega)
    have hps : psN L (j + 1) = psN L j + (dgb (L (psN L j)) + 2) := rfl
    have hps1 := ps_N (N := N) (j + 1) (fun i hi => hG i (by omega))
    obtain ⟨c, s1, s2⟩ := hs_any hN hL hg (show j ≤ 40 by omega) r1 r3 tlf twi tfg tgo thm tkd twt hS
    have hskip : ∀ Y, wh (fun (s : (Int32) × (Int32) × (Int32) × (Int32) × (Int32) × (Int32) × (Nat → Int32) × (Nat → Int32) × (Nat → Int32) × (Nat → Int32) × (Nat → Int32) × (Nat → Int32) × (Nat → Int32)) => F_Let_tellInto_L29 (nI N) lt s.1 s.2.1 s.2.2.1 s.2.2.2.1 s.2.2.2.2.1 s.2.2.2.2.2.1 s.2.2.2.2.2.2.1 s.2.2.2.2.2.2.2.1 s.2.2.2.2.2.2.2.2.1 s.2.2.2.2.2.2.2.2.2.1 s.2.2.2.2.2.2.2.2.2.2.1 s.2.2.2.2.2.2.2.2.2.2.2.1 s.2.2.2.2.2.2.2.2.2.2.2.2) (Y + (N - psN L j) + 1) (nI j, nI (psN L j), nI (psN L j), dy, dn, th, cpf tlf lf 4, cpf twi wi 4, cpf tfg fg 8, cpf tgo go 8, cpf thm hm 8, cpf tkd kd 8, cpf twt wt 6) = wh (fun (s : (Int32) × (Int32) × (Int32) × (Int32) × (Int32) × (Int32) × (Nat → Int32) × (Nat → Int32) × (Nat → Int32) × (Nat → Int32) × (Nat → Int32) × (Nat → Int32) × (Nat → Int32)) => F_Let_tellInto_L29 (nI N) lt s.1 s.2.1 s.2.2.1 s.2.2.2.1 s.2.2.2.2.1 s.2.2.2.2.2.1 s.2.2.2.2.2.2.1 s.2.2.2.2.2.2.2.1 s.2.2.2.2.2.2.2.2.1 s.2.2.2.2.2.2.2.2.2.1 s.2.2.2.2.2.2.2.2.2.2.1 s.2.2.2.2.2.2.2.2.2.2.2.1 s.2.2.2.2.2.2.2.2.2.2.2.2) (Y + (N - psN L (j + 1)) + 1 + 1) (nI j, nI (psN L j), nI (psN L j + (dgb (L (psN L j)) + 1)), dy, dn, th, cpf tlf lf 4, cpf twi wi 4, cpf tfg fg 8, cpf tgo go 8, cpf thm hm 8, cpf tkd kd 8, cpf twt wt 6) := by
      intro Y
      rw [show Y + (N - psN L j) + 1 = Y + (N - psN L (j + 1)) + 1 + 1 + (dgb (L (psN L j)) + 1) by omega]
      exact C_end hN hL hg _ _ _ _ _ _ _ _ _ _ _
    have hsemi : ∀ z, F_Let_tellInto_L29 (nI N) lt (nI j) (nI (psN L j)) (nI (psN L j + (dgb (L (psN L j)) + 1))) dy dn th (cpf tlf lf 4) (cpf twi wi 4) (cpf tfg fg 8) (cpf tgo go 8) (cpf thm hm 8) (cpf tkd kd 8) (cpf twt wt 6) = z → z = ((F_Let_refusalAt (nI N) lt dy th (nI (psN L j))).bind (fun q_8 => (if q_8 = 0 then ((F_Let_bring (nI N) lt dy dn th (cpf tlf lf 4) (cpf twi wi 4) (cpf tfg fg 8) (cpf tgo go 8) (cpf thm hm 8) (cpf tkd kd 8) (cpf twt wt 6) (nI (psN L j))).bind (fun q_10 => (some (.inl (nI (j + 1), nI (psN L (j + 1)), nI (psN L (j + 1)), q_10.1, q_10.2.1, q_10.2.2.1, q_10.2.2.2.1, q_10.2.2.2.2.1, q_10.2.2.2.2.2.1, q_10.2.2.2.2.2.2.1, q_10.2.2.2.2.2.2.2.1, q_10.2.2.2.2.2.2.2.2.1, q_10.2.2.2.2.2.2.2.2.2))))) else (some (.inr (.inr ((((-2000) : Int32) - nI (psN L j)), dy, dn, th, cpf tlf lf 4, cpf twi wi 4, cpf tfg fg 8, cpf tgo go 8, cpf thm hm 8, cpf tkd kd 8, cpf twt wt 6))))))) := by
      intro z hz
      rw [← hz]
      unfold F_Let_tellInto_L29
      rw [show psN L j + (dgb (L (psN L j)) + 1) = psN L j + 1 + dgb (L (psN L j)) by omega, if_neg (nI_leN g4 (by omega)), C_at hN (by omega), Option.bind_some, la, if_pos g4, (hL _ g4).1, g5, if_pos (show nI 59 = 59 from rfl), nI_1, nI_1, hps, show psN L j + 1 + dgb (L (psN L j)) + 1 = psN L j + (dgb (L (psN L j)) + 2) by omega]
    have hml : ∀ z, F_M_hall_L79 sc (nI N, 0, nI M, lo, pl, td) (dy0, dn0, 1, 1, nI 41, th0, fg0, hm0, K, kd0, lf0, wi0, wt0) (nI j) dy dn th fg hm kd lf wi wt = z → z = ((F_M_comesTold dy dn th fg hm kd lf lo td wi wt (nI j)).bind (fun q_11 => (if q_11.1 = 0 then ((F_M_again q_11.2.1 q_11.2.2.1 q_11.2.2.2.1 q_11.2.2.2.2.1 q_11.2.2.2.2.2.1 K q_11.2.2.2.2.2.2.1 q_11.2.2.2.2.2.2.2.1 q_11.2.2.2.2.2.2.2.2.1 q_11.2.2.2.2.2.2.2.2.2).bind (fun q_13 => (some (.inr (.inr ((((-2000) : Int32) - nI (psN L j)), nI N, q_13.1, q_13.2.1, 0, q_13.2.2.1, q_13.2.2.2.1, 0, q_13.2.2.2.2.1, nI M, q_13.2.2.2.2.2.1, 0, sc, q_13.2.2.2.2.2.2.1, q_13.2.2.2.2.2.2.2.1, q_13.2.2.2.2.2.2.2.2.1, q_13.2.2.2.2.2.2.2.2.2.1, q_13.2.2.2.2.2.2.2.2.2.2.1, lo, pl, td, q_13.2.2.2.2.2.2.2.2.2.2.2.1, q_13.2.2.2.2.2.2.2.2.2.2.2.2)))))) else (some (.inl (nI (j + 1), q_11.2.1, q_11.2.2.1, q_11.2.2.2.1, q_11.2.2.2.2.1, q_11.2.2.2.2.2.1, q_11.2.2.2.2.2.2.1, q_11.2.2.2.2.2.2.2.1, q_11.2.2.2.2.2.2.2.2.1, q_11.2.2.2.2.2.2.2.2.2)))))) := by
      intro z hz
      rw [← hz]
      unfold F_M_hall_L79
      show (if nI M ≤ nI j then _ else (F_M_comesTold dy dn th fg hm kd lf lo td wi wt (nI j)).bind _) = _
      rw [if_neg (nI_leN (show j < M by omega) (by omega)), nI_1]
      congr 1
      funext q_11
      by_cases c0 : q_11.1 = 0
      · rw [if_pos c0, if_pos c0]
        refine congrArg (fun g => Option.bind (F_M_again q_11.2.1 q_11.2.2.1 q_11.2.2.2.1 q_11.2.2.2.2.1 q_11.2.2.2.2.2.1 K q_11.2.2.2.2.2.2.1 q_11.2.2.2.2.2.2.2.1 q_11.2.2.2.2.2.2.2.2.1 q_11.2.2.2.2.2.2.2.2.2) g) (funext fun q_13 => ?_)
        rw [ck_nI _ (show j < 49 by omega) (by omega), nI_clamp (show j < 2 ^ 31 by omega)]
        show some (Sum.inr (Sum.inr (((-2000) : Int32) - pl j, _))) = _
        rw [r2]
      · rw [if_neg c0, if_neg c0]
    rcases s2 with ⟨c0, m1⟩ | ⟨c0, th', dy', dn', wt', kd', fg', go', hm', wi', lf', m1, m2, m3, m4⟩
    · refine Or.inr ⟨j, by omega, th, dy, dn, cpf twt wt 6, cpf tkd kd 8, cpf tfg fg 8, cpf tgo go 8, cpf thm hm 8, cpf twi wi 4, cpf tlf lf 4, fun X => ?_, fun X => ?_⟩
      · rw [hskip]
        refine wh_inr ?_
        show F_Let_tellInto_L29 (nI N) lt (nI j) (nI (psN L j)) (nI (psN L j + (dgb (L (psN L j)) + 1))) dy dn th (cpf tlf lf 4) (cpf twi wi 4) (cpf tfg fg 8) (cpf tgo go 8) (cpf thm hm 8) (cpf tkd kd 8) (cpf twt wt 6) = _
        rw [hsemi _ rfl, s1, Option.bind_some, if_neg c0]
      · rw [show X + (r + 1) + 1 = X + r + 1 + 1 by omega]
        refine wh_inr ?_
        show F_M_hall_L79 sc (nI N, 0, nI M, lo, pl, td) (dy0, dn0, 1, 1, nI 41, th0, fg0, hm0, K, kd0, lf0, wi0, wt0) (nI j) dy dn th fg hm kd lf wi wt = _
        obtain ⟨a1, a2, a3, a4, a5, a6, a7⟩ := hO
        rw [hml _ rfl, m1, Option.bind_some, if_pos rfl]
        show (F_M_again dy dn th fg hm K kd lf wi wt).bind _ = _
        rw [M_again hE, Option.bind_some, cpf_back (c := fg0) (fun j hj => rfl) (fun j hj => a3 j hj), cpf_back (c := hm0) (fun j hj => rfl) (fun j hj => a5 j hj), cpf_back (c := kd0) (fun j hj => rfl) (fun j hj => a2 j hj), cpf_back (c := lf0) (fun j hj => rfl) (fun j hj => a7 j hj), cpf_back (c := wi0) (fun j hj => rfl) (fun j hj => a6 j hj), cpf_back (c := wt0) (fun j hj => rfl) (fun j hj => a1 j hj)]
    · have stepC : ∀ Y, wh (fun (s : (Int32) × (Int32) × (Int32) × (Int32) × (Int32) × (Int32) × (Nat → Int32) × (Nat → Int32) × (Nat → Int32) × (Nat → Int32) × (Nat → Int32) × (Nat → Int32) × (Nat → Int32)) => F_Let_tellInto_L29 (nI N) lt s.1 s.2.1 s.2.2.1 s.2.2.2.1 s.2.2.2.2.1 s.2.2.2.2.2.1 s.2.2.2.2.2.2.1 s.2.2.2.2.2.2.2.1 s.2.2.2.2.2.2.2.2.1 s.2.2.2.2.2.2.2.2.2.1 s.2.2.2.2.2.2.2.2.2.2.1 s.2.2.2.2.2.2.2.2.2.2.2.1 s.2.2.2.2.2.2.2.2.2.2.2.2) (Y + (N - psN L j) + 1) (nI j, nI (psN L j), nI (psN L j), dy, dn, th, cpf tlf lf 4, cpf twi wi 4, cpf tfg fg 8, cpf tgo go 8, cpf thm hm 8, cpf tkd kd 8, cpf twt wt 6) = wh (fun (s : (Int32) × (Int32) × (Int32) × (Int32) × (Int32) × (Int32) × (Nat → Int32) × (Nat → Int32) × (Nat → Int32) × (Nat → Int32) × (Nat → Int32) × (Nat → Int32) × (Nat → Int32)) => F_Let_tellInto_L29 (nI N) lt s.1 s.2.1 s.2.2.1 s.2.2.2.1 s.2.2.2.2.1 s.2.2.2.2.2.1 s.2.2.2.2.2.2.1 s.2.2.2.2.2.2.2.1 s.2.2.2.2.2.2.2.2.1 s.2.2.2.2.2.2.2.2.2.1 s.2.2.2.2.2.2.2.2.2.2.1 s.2.2.2.2.2.2.2.2.2.2.2.1 s.2.2.2.2.2.2.2.2.2.2.2.2) (Y + (N - psN L (j + 1)) + 1) (nI (j + 1), nI (psN L (j + 1)), nI (psN L (j + 1)), dy', dn', th', cpf tlf lf' 4, cpf twi wi' 4, cpf tfg fg' 8, cpf tgo go' 8, cpf thm hm' 8, cpf tkd kd' 8, cpf twt wt' 6) := by
        intro Y
        rw [hskip]
        refine wh_inl ?_
        show F_Let_tellInto_L29 (nI N) lt (nI j) (nI (psN L j)) (nI (psN L j + (dgb (L (psN L j)) + 1))) dy dn th (cpf tlf lf 4) (cpf twi wi 4) (cpf tfg fg 8) (cpf tgo go 8) (cpf thm hm 8) (cpf tkd kd 8) (cpf twt wt 6) = _
        rw [hsemi _ rfl, s1, Option.bind_some, if_pos c0, m1, Option.bind_some]
      have stepM : ∀ Y, wh (fun (s : (Int32) × (Int32) × (Int32) × (Int32) × (Nat → Int32) × (Nat → Int32) × (Nat → Int32) × (Nat → Int32) × (Nat → Int32) × (Nat → Int32)) => F_M_hall_L79 sc (nI N, 0, nI M, lo, pl, td) (dy0, dn0, 1, 1, nI 41, th0, fg0, hm0, K, kd0, lf0, wi0, wt0) s.1 s.2.1 s.2.2.1 s.2.2.2.1 s.2.2.2.2.1 s.2.2.2.2.2.1 s.2.2.2.2.2.2.1 s.2.2.2.2.2.2.2.1 s.2.2.2.2.2.2.2.2.1 s.2.2.2.2.2.2.2.2.2) (Y + (r + 1) + 1) (nI j, dy, dn, th, fg, hm, kd, lf, wi, wt) = wh (fun (s : (Int32) × (Int32) × (Int32) × (Int32) × (Nat → Int32) × (Nat → Int32) × (Nat → Int32) × (Nat → Int32) × (Nat → Int32) × (Nat → Int32)) => F_M_hall_L79 sc (nI N, 0, nI M, lo, pl, td) (dy0, dn0, 1, 1, nI 41, th0, fg0, hm0, K, kd0, lf0, wi0, wt0) s.1 s.2.1 s.2.2.1 s.2.2.2.1 s.2.2.2.2.1 s.2.2.2.2.2.1 s.2.2.2.2.2.2.1 s.2.2.2.2.2.2.2.1 s.2.2.2.2.2.2.2.2.1 s.2.2.2.2.2.2.2.2.2) (Y + r + 1) (nI (j + 1), dy', dn', th', fg', hm', kd', lf', wi', wt') := by
        intro Y
        rw [show Y + (r + 1) + 1 = Y + r + 1 + 1 by omega]
        refine wh_inl ?_
        show F_M_hall_L79 sc (nI N, 0, nI M, lo, pl, td) (dy0, dn0, 1, 1, nI 41, th0, fg0, hm0, K, kd0, lf0, wi0, wt0) (nI j) dy dn th fg hm kd lf wi wt = _
        rw [hml _ rfl, m2, Option.bind_some, if_neg (show ¬ (1 : Int32) = 0 by decide)]
      rcases hl_run hN hL hG hMN hR tlf twi tfg tgo thm tkd twt hE sc r (j + 1) th' dy' dn' wt' kd' fg' go' hm' wi' lf' (by omega) m3 (hOut_trans hO m4) with ⟨th2, dy2, dn2, wt2, kd2, fg2, go2, hm2, wi2, lf2, n1, n2, n3, n4⟩ | ⟨i, hi, th2, dy2, dn2, wt2, kd2, fg2, go2, hm2, wi2, lf2, n3, n4⟩
      · refine Or.inl ⟨th2, dy2, dn2, wt2, kd2, fg2, go2, hm2, wi2, lf2, n1, n2, fun X => ?_, fun X => ?_⟩
        · rw [stepC, n3]
        · rw [stepM, n4]
      · refine Or.inr ⟨i, hi, th2, dy2, dn2, wt2, kd2, fg2, go2, hm2, wi2, lf2, fun X => ?_, fun X => ?_⟩
        · rw [stepC, n3]
        · rw [stepM, n4]
