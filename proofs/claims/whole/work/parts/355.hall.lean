-- halls: what no hall can be
def bq (N : Nat) (L : Nat → Nat) (p : Nat) : Nat := if dgb (L p) = 0 then p else p + 1 + min (zd N L (p + 1) 5) (dgb (L p))
theorem dgb_le (c : Nat) : dgb c ≤ 4 := by
  unfold dgb
  repeat (first | omega | split)
theorem C_head {c : Nat} (hc : c ≤ 255) : F_Let_digitsBehind (nI c) = some (if dgb c = 0 then -1 else nI (dgb c)) := (dgb_fin ⟨c, by omega⟩).1
theorem M_head {c : Nat} (hc : c ≤ 255) : F_M_isLetter (nI c) = some (if dgb c = 0 then 0 else 1) := (dgb_fin ⟨c, by omega⟩).2.1
theorem U_dig {N p X : Nat} {L : Nat → Nat} {lt : Nat → Int32} (hN : N ≤ 96) (hL : ∀ p, p < N → lt p = nI (L p) ∧ L p ≤ 255) (hp : p < N) (hk : dgb (L p) ≠ 0) : ∀ t, t ≤ zd N L (p + 1) 5 → t ≤ dgb (L p) → wh (fun (s : (Int32) × (Int32)) => F_Let_firstUnfit_L4 (nI N) lt s.1 s.2) (X + (t + 1)) ((-1 : Int32), nI p) = wh (fun (s : (Int32) × (Int32)) => F_Let_firstUnfit_L4 (nI N) lt s.1 s.2) X (nI (dgb (L p) - t), nI (p + 1 + t))
  | 0, _, _ => by
    obtain ⟨l1, l2⟩ := hL p hp
    refine wh_inl ?_
    show F_Let_firstUnfit_L4 (nI N) lt (-1) (nI p) = _
    unfold F_Let_firstUnfit_L4
    rw [if_neg (nI_leN hp (by omega)), C_at hN (by omega), Option.bind_some, if_pos rfl, la, if_pos hp, l1, C_head l2, Option.bind_some, if_neg hk, if_neg (show ¬ nI (dgb (L p)) = -1 by
      intro e
      have := congrArg Int32.toInt e
      have := dgb_le (L p)
      rw [nI_toInt (by omega), show (-1 : Int32).toInt = -1 by decide +kernel] at *
      omega), nI_1]
    rfl
  | t + 1, h1, h2 => by
    have h4 := dgb_le (L p)
    have ih := U_dig (X := X + 1) hN hL hp hk t (by omega) (by omega)
    rw [show X + (t + 1 + 1) = X + 1 + (t + 1) by omega, ih]
    refine wh_inl ?_
    have hd := dig_y (zd_lt (N := N) (L := L) 5 (p + 1) t (by omega))
    show F_Let_firstUnfit_L4 (nI N) lt (nI (dgb (L p) - t)) (nI (p + 1 + t)) = _
    have e1 : nI (dgb (L p) - t) + (-1) = nI (dgb (L p) - (t + 1)) := by
      rw [show dgb (L p) - t = dgb (L p) - (t + 1) + 1 by omega, dec1]
    unfold F_Let_firstUnfit_L4
    rw [if_neg (nI_leN hd.1 (by omega)), C_at hN (by omega), Option.bind_some, if_neg (show ¬ nI (dgb (L p) - t) = -1 by
      intro e
      have := congrArg Int32.toInt e
      rw [nI_toInt (by omega), show (-1 : Int32).toInt = -1 by decide +kernel] at this
      omega), if_neg (neC 0 0 (show dgb (L p) - t ≠ 0 by omega) (by omega) (by omega) rfl), la, if_pos hd.1, (hL _ hd.1).1, if_neg (show ¬ nI (L (p + 1 + t)) < 48 by rw [i32_lt, nI_toInt (by omega), show (48 : Int32).toInt = 48 by decide +kernel]; omega), if_pos (show nI (L (p + 1 + t)) ≤ 57 by rw [i32_le, nI_toInt (by omega), show (57 : Int32).toInt = 57 by decide +kernel]; omega), e1, nI_1]
    rfl
theorem U_good {N p X : Nat} {L : Nat → Nat} {lt : Nat → Int32} (hN : N ≤ 96) (hL : ∀ p, p < N → lt p = nI (L p) ∧ L p ≤ 255) (hg : gdS N L p = true) : wh (fun (s : (Int32) × (Int32)) => F_Let_firstUnfit_L4 (nI N) lt s.1 s.2) (X + (dgb (L p) + 2)) ((-1 : Int32), nI p) = wh (fun (s : (Int32) × (Int32)) => F_Let_firstUnfit_L4 (nI N) lt s.1 s.2) X ((-1 : Int32), nI (p + (dgb (L p) + 2))) := by
  obtain ⟨h1, h2, h3, h4, h5⟩ := gdS_y hg
  have e := U_dig (X := X + 1) hN hL h1 h2 (dgb (L p)) h3 (Nat.le_refl _)
  rw [show X + (dgb (L p) + 2) = X + 1 + (dgb (L p) + 1) by omega, e]
  refine wh_inl ?_
  show F_Let_firstUnfit_L4 (nI N) lt (nI (dgb (L p) - dgb (L p))) (nI (p + 1 + dgb (L p))) = _
  unfold F_Let_firstUnfit_L4
  rw [if_neg (nI_leN h4 (by omega)), C_at hN (by omega), Option.bind_some, Nat.sub_self, if_neg (show ¬ nI 0 = -1 by decide), if_pos (show nI 0 = 0 from rfl), la, if_pos h4, (hL _ h4).1, h5, if_pos (show nI 59 = 59 from rfl), nI_1, show p + 1 + dgb (L p) + 1 = p + (dgb (L p) + 2) by omega]
theorem U_all {N : Nat} {L : Nat → Nat} {lt : Nat → Int32} (hN : N ≤ 96) (hL : ∀ p, p < N → lt p = nI (L p) ∧ L p ≤ 255) : ∀ M X, (∀ j, j < M → gdS N L (psN L j) = true) → wh (fun (s : (Int32) × (Int32)) => F_Let_firstUnfit_L4 (nI N) lt s.1 s.2) (X + psN L M) ((-1 : Int32), (0 : Int32)) = wh (fun (s : (Int32) × (Int32)) => F_Let_firstUnfit_L4 (nI N) lt s.1 s.2) X ((-1 : Int32), nI (psN L M))
  | 0, X, _ => rfl
  | M + 1, X, h => by
    rw [psN, show X + (psN L M + (dgb (L (psN L M)) + 2)) = X + (dgb (L (psN L M)) + 2) + psN L M by omega, U_all hN hL M _ (fun j hj => h j (by omega)), U_good hN hL (h M (by omega))]
theorem C_fitOK {N M : Nat} {L : Nat → Nat} {lt : Nat → Int32} (hN : N ≤ 96) (hL : ∀ p, p < N → lt p = nI (L p) ∧ L p ≤ 255) (h : ∀ j, j < M → gdS N L (psN L j) = true) (hM : 1 ≤ M) (hMN : psN L M = N) : F_Let_firstUnfit (nI N) lt = some (-1) := by
  have e := U_all hN hL M (400 - N) h
  have hN1 := (ps_N M h).2
  rw [hMN, show 400 - N + N = 400 by omega] at e
  have e2 : wh (fun (s : (Int32) × (Int32)) => F_Let_firstUnfit_L4 (nI N) lt s.1 s.2) (400 - N) ((-1 : Int32), nI N) = some (Sum.inl (-1)) := by
    rw [show 400 - N = 399 - N + 1 by omega]
    refine wh_inr ?_
    show F_Let_firstUnfit_L4 (nI N) lt (-1) (nI N) = _
    unfold F_Let_firstUnfit_L4
    rw [if_pos (nI_le (Nat.le_refl N) (by omega))]
  unfold F_Let_firstUnfit
  rw [e, e2, Option.bind_some]
  show (if (-1 : Int32) = -1 then (if nI N ≤ 0 then some (nI N) else some (-1)) else some (nI N)) = _
  rw [if_pos rfl, if_neg (show ¬ nI N ≤ 0 by rw [i32_le, nI_toInt (by omega), Int32.toInt_zero]; omega)]
theorem bq_le {N p : Nat} {L : Nat → Nat} (hp : p < N) : bq N L p ≤ N := by
  have := zd_N (N := N) (L := L) 5 (show p + 1 ≤ N by omega)
  unfold bq
  split <;> omega
theorem C_fitNo {N M : Nat} {L : Nat → Nat} {lt : Nat → Int32} (hN : N ≤ 96) (hL : ∀ p, p < N → lt p = nI (L p) ∧ L p ≤ 255) (h : ∀ j, j < M → gdS N L (psN L j) = true) (hb : gdS N L (psN L M) = false) (hlt : psN L M < N) : F_Let_firstUnfit (nI N) lt = some (nI (bq N L (psN L M))) := by
  have e := U_all hN hL M (400 - psN L M) h
  rw [show 400 - psN L M + psN L M = 400 by omega] at e
  generalize psN L M = p at *
  have key : wh (fun (s : (Int32) × (Int32)) => F_Let_firstUnfit_L4 (nI N) lt s.1 s.2) (400 - p) ((-1 : Int32), nI p) = some (Sum.inr (nI (bq N L p))) ∨ (bq N L p = N ∧ ∃ y, y ≤ 4 ∧ wh (fun (s : (Int32) × (Int32)) => F_Let_firstUnfit_L4 (nI N) lt s.1 s.2) (400 - p) ((-1 : Int32), nI p) = some (Sum.inl (nI y))) := by
    by_cases hk : dgb (L p) = 0
    · left
      obtain ⟨l1, l2⟩ := hL p hlt
      rw [show 400 - p = 399 - p + 1 by omega]
      refine wh_inr ?_
      show F_Let_firstUnfit_L4 (nI N) lt (-1) (nI p) = _
      unfold F_Let_firstUnfit_L4
      rw [if_neg (nI_leN hlt (by omega)), C_at hN (by omega), Option.bind_some, if_pos rfl, la, if_pos hlt, l1, C_head l2, Option.bind_some, if_pos hk, if_pos rfl, bq, if_pos hk]
    · have h4 := dgb_le (L p)
      have hz := zd_N (N := N) (L := L) 5 (show p + 1 ≤ N by omega)
      have eb : bq N L p = p + 1 + min (zd N L (p + 1) 5) (dgb (L p)) := if_neg hk
      by_cases c : dgb (L p) ≤ zd N L (p + 1) 5
      · have e1 := U_dig (X := 399 - p - dgb (L p)) hN hL hlt hk (dgb (L p)) c (Nat.le_refl _)
        rw [show 399 - p - dgb (L p) + (dgb (L p) + 1) = 400 - p by omega, Nat.sub_self] at e1
        rw [e1, eb, Nat.min_eq_right c, show 399 - p - dgb (L p) = 398 - p - dgb (L p) + 1 by omega]
        by_cases c2 : p + 1 + dgb (L p) < N
        · left
          refine wh_inr ?_
          show F_Let_firstUnfit_L4 (nI N) lt (nI 0) (nI (p + 1 + dgb (L p))) = _
          obtain ⟨l1, l2⟩ := hL _ c2
          unfold F_Let_firstUnfit_L4
          rw [if_neg (nI_leN c2 (by omega)), C_at hN (by omega), Option.bind_some, if_neg (show ¬ nI 0 = -1 by decide), if_pos (show nI 0 = 0 from rfl), la, if_pos c2, l1, if_neg (show ¬ nI (L (p + 1 + dgb (L p))) = 59 from neC 59 59 (fun e5 => gdS_n hb hlt hk c c2 e5) (by omega) (by omega) rfl)]
        · right
          refine ⟨by omega, 0, by omega, wh_inr ?_⟩
          show F_Let_firstUnfit_L4 (nI N) lt (nI 0) (nI (p + 1 + dgb (L p))) = _
          unfold F_Let_firstUnfit_L4
          rw [if_pos (nI_le (by omega) (by omega))]
      · have e1 := U_dig (X := 399 - p - zd N L (p + 1) 5) hN hL hlt hk (zd N L (p + 1) 5) (Nat.le_refl _) (by omega)
        rw [show 399 - p - zd N L (p + 1) 5 + (zd N L (p + 1) 5 + 1) = 400 - p by omega] at e1
        rw [e1, eb, Nat.min_eq_left (by omega), show 399 - p - zd N L (p + 1) 5 = 398 - p - zd N L (p + 1) 5 + 1 by omega]
        have hdg := zd_at (N := N) (L := L) 5 (p + 1) (by omega)
        by_cases c2 : p + 1 + zd N L (p + 1) 5 < N
        · left
          refine wh_inr ?_
          show F_Let_firstUnfit_L4 (nI N) lt (nI (dgb (L p) - zd N L (p + 1) 5)) (nI (p + 1 + zd N L (p + 1) 5)) = _
          have hdn := dig_n hdg
          obtain ⟨l1, l2⟩ := hL _ c2
          unfold F_Let_firstUnfit_L4
          rw [if_neg (nI_leN c2 (by omega)), C_at hN (by omega), Option.bind_some, if_neg (show ¬ nI (dgb (L p) - zd N L (p + 1) 5) = -1 by
            intro e
            have := congrArg Int32.toInt e
            rw [nI_toInt (by omega), show (-1 : Int32).toInt = -1 by decide +kernel] at this
            omega), if_neg (neC 0 0 (show dgb (L p) - zd N L (p + 1) 5 ≠ 0 by omega) (by omega) (by omega) rfl), la, if_pos c2, l1]
          by_cases c3 : L (p + 1 + zd N L (p + 1) 5) < 48
          · rw [if_pos (show nI (L (p + 1 + zd N L (p + 1) 5)) < 48 by rw [i32_lt, nI_toInt (by omega), show (48 : Int32).toInt = 48 by decide +kernel]; omega)]
          · rw [if_neg (show ¬ nI (L (p + 1 + zd N L (p + 1) 5)) < 48 by rw [i32_lt, nI_toInt (by omega), show (48 : Int32).toInt = 48 by decide +kernel]; omega), if_neg (show ¬ nI (L (p + 1 + zd N L (p + 1) 5)) ≤ 57 by rw [i32_le, nI_toInt (by omega), show (57 : Int32).toInt = 57 by decide +kernel]; omega)]
        · right
          refine ⟨by omega, dgb (L p) - zd N L (p + 1) 5, by omega, wh_inr ?_⟩
          show F_Let_firstUnfit_L4 (nI N) lt (nI (dgb (L p) - zd N L (p + 1) 5)) (nI (p + 1 + zd N L (p + 1) 5)) = _
          unfold F_Let_firstUnfit_L4
          rw [if_pos (nI_le (by omega) (by omega))]
  unfold F_Let_firstUnfit
  rw [e]
  rcases key with k | ⟨k1, y, k2, k3⟩
  · rw [k]
    rfl
  · rw [k3, Option.bind_some, k1]
    show (if nI y = -1 then (if nI N ≤ 0 then some (nI N) else some (-1)) else some (nI N)) = _
    rw [if_neg (show ¬ nI y = -1 by
      intro e
      have := congrArg Int32.toInt e
      rw [nI_toInt (by omega), show (-1 : Int32).toInt = -1 by decide +kernel] at this
      omega)]
