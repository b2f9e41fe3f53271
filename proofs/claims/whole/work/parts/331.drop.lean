-- the best thing to drop
def kwo (go wt hm : Nat → Int32) (t : Nat) : Nat → Nat
  | 0 => 0
  | d + 1 => if LK go wt (hm d &&& (nI (2 ^ t) ^^^ (-1))) = -9 then kwo go wt hm t d else kwo go wt hm t d + 1
theorem kwo_le (go wt hm : Nat → Int32) (t : Nat) : ∀ d, kwo go wt hm t d ≤ d
  | 0 => Nat.le_refl 0
  | d + 1 => by
    have := kwo_le go wt hm t d
    rw [kwo]
    split <;> omega
theorem C_without {go wt hm : Nat → Int32} {m t : Nat} (hm8 : m ≤ 8) (ht : t < 8) : F_Dia_likelyWithout (nI m) go hm wt (nI t) = some (nI (kwo go wt hm t m)) := by
  unfold F_Dia_likelyWithout
  refine (wh_forB (fun i => (nI (kwo go wt hm t (min i m)), nI i)) 8 (nI (kwo go wt hm t m)) 400 (by omega) (fun i hi => ?_) ?_).trans rfl
  · show F_Dia_likelyWithout_L4 (nI m) go hm wt (nI t) (nI (kwo go wt hm t (min i m))) (nI i) = some (Sum.inl (nI (kwo go wt hm t (min (i + 1) m)), nI (i + 1)))
    unfold F_Dia_likelyWithout_L4
    rw [if_neg (nleC 8 8 hi (by omega) rfl), shl_4 ht, nI_1]
    by_cases c : i < m
    · rw [hasD_y c hm8, Option.bind_some, if_neg (by decide), C_ham hm8 c, Option.bind_some, C_by, Option.bind_some, Nat.min_eq_left (by omega), Nat.min_eq_left (by omega), kwo, nI_1]
      by_cases e : LK go wt (hm i &&& (nI (2 ^ t) ^^^ (-1))) = -9
      · rw [if_pos e, if_pos e]
      · rw [if_neg e, if_neg e]
    · rw [hasD_n2 (by omega) hi, Option.bind_some, if_pos rfl, Nat.min_eq_right (by omega), Nat.min_eq_right (by omega)]
  · show F_Dia_likelyWithout_L4 (nI m) go hm wt (nI t) (nI (kwo go wt hm t (min 8 m))) (nI 8) = _
    unfold F_Dia_likelyWithout_L4
    rw [if_pos (by decide), Nat.min_eq_right hm8]
theorem C_dropped {go wt hm : Nat → Int32} {n m : Nat} (hn : n ≤ 8) (hm8 : m ≤ 8) : F_Dia_bestDropped (nI m) (nI n) go hm wt = some (ixO (fmx (kmx (fun t => kwo go wt hm t m)) n)) := by
  unfold F_Dia_bestDropped
  refine (wh_forB (fun i => (ixO (fmx (kmx (fun t => kwo go wt hm t m)) i), vlO 0 (fun t => nI (kwo go wt hm t m)) (fmx (kmx (fun t => kwo go wt hm t m)) i), nI i)) n (ixO (fmx (kmx (fun t => kwo go wt hm t m)) n)) 400 (by omega) (fun i hi => ?_) ?_).trans rfl
  · show F_Dia_bestDropped_L7 (nI m) (nI n) go hm wt (ixO (fmx (kmx (fun t => kwo go wt hm t m)) i)) (vlO 0 (fun t => nI (kwo go wt hm t m)) (fmx (kmx (fun t => kwo go wt hm t m)) i)) (nI i) = some (Sum.inl (ixO (fmx (kmx (fun t => kwo go wt hm t m)) (i + 1)), vlO 0 (fun t => nI (kwo go wt hm t m)) (fmx (kmx (fun t => kwo go wt hm t m)) (i + 1)), nI (i + 1)))
    unfold F_Dia_bestDropped_L7
    rw [if_neg (nI_leN hi (by omega)), C_without hm8 (show i < 8 by omega), Option.bind_some, nI_1]
    cases e : fmx (kmx (fun t => kwo go wt hm t m)) i with
    | none =>
      rw [fmx_1 e]
      exact if_pos rfl
    | some b =>
      have hb := fmx_lt _ i b e
      have h1 := kwo_le go wt hm i m
      have h2 := kwo_le go wt hm b m
      show (if nI b = -9 then _ else _) = _
      rw [if_neg (nI_ne9 (show b < 2 ^ 31 by omega))]
      show (if nI (kwo go wt hm i m) ≤ nI (kwo go wt hm b m) then _ else _) = _
      by_cases c : kwo go wt hm i m ≤ kwo go wt hm b m
      · rw [if_pos ((nI_leI (by omega) (by omega)).mpr c), fmx_y e (decide_eq_true c)]
      · rw [if_neg (fun h => c ((nI_leI (by omega) (by omega)).mp h)), fmx_n e (fun h => c (of_decide_eq_true h))]
        rfl
  · show F_Dia_bestDropped_L7 (nI m) (nI n) go hm wt _ _ (nI n) = _
    unfold F_Dia_bestDropped_L7
    rw [if_pos (by rw [i32_le]; omega)]
theorem and_lt {h n : Nat} (hn : n ≤ 8) (hh : h < 2 ^ n) (y : Int32) : ∃ k, k < 2 ^ n ∧ nI h &&& y = nI k := by
  have hh2 : h < 256 := lt256 hh hn
  refine ⟨h &&& y.toBitVec.toNat, Nat.lt_of_le_of_lt Nat.and_le_left hh, ?_⟩
  apply Int32.toBitVec_inj.mp
  rw [Int32.toBitVec_and]
  apply BitVec.eq_of_toNat_eq
  have e : ∀ a, a < 2 ^ 31 → (nI a).toBitVec.toNat = a := by
    intro a ha
    have h1 := nI_toInt ha
    show ((nI a).toBitVec).toNat = a
    have h2 : (nI a).toBitVec.toInt = a := h1
    rw [BitVec.toInt_eq_toNat_cond] at h2
    split at h2 <;> omega
  have hl : h &&& y.toBitVec.toNat ≤ h := Nat.and_le_left
  rw [BitVec.toNat_and, e h (by omega), e _ (by omega)]
theorem M_likelyD {fg kd go hm wt : Nat → Int32} {n m : Nat} (hn : n ≤ 8) (hm8 : m ≤ 8) (ht : ∀ j, j < n → ∃ k f, k < 6 ∧ f ≤ 9 ∧ kd j = nI k ∧ fg j = nI f ∧ go j = nI (gw k f)) (hd : ∀ j, j < m → ∃ h, h < 2 ^ n ∧ hm j = nI h) (cn : Nat → Nat) (h0 : cn 0 = 0) (h1 : ∀ d, d < m → cn (d + 1) = if LK go wt (hm d) = -9 then cn d else cn d + 1) : F_M_likelyDays (nI m) (nI n) fg hm kd wt = some (nI (cn m)) := by
  unfold F_M_likelyDays
  have e : wh (fun (s : (Int32) × (Int32)) => F_M_likelyDays_L4 (nI m) (nI n) fg hm kd wt s.1 s.2) 400 (nI (cn 0), (0 : Int32)) = some (nI (cn m)) := by
    refine wh_for (fun i => (nI (cn i), nI i)) m (nI (cn m)) (fun i hi => ?_) ?_ 400 (by omega)
    · show F_M_likelyDays_L4 (nI m) (nI n) fg hm kd wt (nI (cn i)) (nI i) = some (Sum.inl (nI (cn (i + 1)), nI (i + 1)))
      unfold F_M_likelyDays_L4
      rw [if_neg (nI_leN hi (by omega)), M_on hn hm8 ht hd hi, Option.bind_some, nI_1, nI_1, h1 i hi, Int32.add_zero]
      rcases LK_or go wt (hm i) with c | ⟨w, hw, c⟩
      · rw [if_pos (show LK go wt (hm i) < 0 by rw [c]; decide), if_pos c]
      · rw [if_neg (show ¬ LK go wt (hm i) < 0 by rw [c]; exact nI_ge0 (by omega)), if_neg (by rw [c]; exact nI_ne9 (by omega))]
    · show F_M_likelyDays_L4 (nI m) (nI n) fg hm kd wt _ (nI m) = _
      unfold F_M_likelyDays_L4
      rw [if_pos (by rw [i32_le]; omega)]
  rw [h0] at e
  have e2 : (nI 0, (0 : Int32)) = ((0 : Int32), (0 : Int32)) := rfl
  rw [e2] at e
  rw [e, Option.bind_some]
theorem M_cut {hm : Nat → Int32} {m t : Nat} (hm8 : m ≤ 8) (ht : t < 8) : wh (fun (s : (Int32) × (Nat → Int32)) => F_M_drop_L27 (nI m) (nI t) s.1 s.2) 400 ((0 : Int32), hm) = some (cpf hm (fun d => hm d &&& (nI (2 ^ t) ^^^ (-1))) m) := by
  have e : wh (fun (s : (Int32) × (Nat → Int32)) => F_M_drop_L27 (nI m) (nI t) s.1 s.2) 400 ((0 : Int32), cpf hm (fun d => hm d &&& (nI (2 ^ t) ^^^ (-1))) 0) = some (cpf hm (fun d => hm d &&& (nI (2 ^ t) ^^^ (-1))) m) := by
    refine wh_for (fun i => (nI i, cpf hm (fun d => hm d &&& (nI (2 ^ t) ^^^ (-1))) i)) m (cpf hm (fun d => hm d &&& (nI (2 ^ t) ^^^ (-1))) m) (fun i hi => ?_) ?_ 400 (by omega)
    · show F_M_drop_L27 (nI m) (nI t) (nI i) (cpf hm (fun d => hm d &&& (nI (2 ^ t) ^^^ (-1))) i) = some (Sum.inl (nI (i + 1), cpf hm (fun d => hm d &&& (nI (2 ^ t) ^^^ (-1))) (i + 1)))
      unfold F_M_drop_L27
      rw [if_neg (nI_leN hi (by omega)), ck_nI _ (show i < 8 by omega) (by omega), ck_nI _ (show i < 8 by omega) (by omega), nI_clamp (show i < 2 ^ 31 by omega), shl_4 ht, nI_1, ← cpf_s hm (fun d => hm d &&& (nI (2 ^ t) ^^^ (-1))) i, show cpf hm (fun d => hm d &&& (nI (2 ^ t) ^^^ (-1))) i i = hm i from if_neg (Nat.lt_irrefl i)]
    · show F_M_drop_L27 (nI m) (nI t) (nI m) _ = _
      unfold F_M_drop_L27
      rw [if_pos (by rw [i32_le]; omega)]
  rw [cpf_0] at e
  exact e
theorem P_drop {hk : Int32} {th : Int32} {dy : Int32} {dn : Int32} {wt : Nat → Int32} {kd : Nat → Int32} {fg : Nat → Int32} {go : Nat → Int32} {hm : Nat → Int32} {wi : Nat → Int32} {lf : Nat → Int32} {kth : Int32} {kdy : Int32} {kdn : Int32} {kwt : Nat → Int32} {kkd : Nat → Int32} {kfg : Nat → Int32} {kgo : Nat → Int32} {khm : Nat → Int32} {kwi : Nat → Int32} {klf : Nat → Int32} {sc : Int32} {sg : Nat → Nat} {sp : Nat → Int32} {sl : Nat → Int32} {sb : Nat → Int32} {sf : Nat → Int32} {sd : Nat → Int32} {lc : Int32} {lt : Nat → Int32} {nc : Int32} {nu : Nat → Int32} {m_kept : Nat → Int32} {im : Nat → Int32} {tu : Nat → Int32} (hI : Inv th dy dn wt kd fg go hm wi lf hk kth kdy kdn kwt kkd kfg kgo khm kwi klf im sc sg sp sl sb sf sd tu lt lc nu nc) : ∃ (r : Int32) (m_thrown' : Int32) (m_place0' : Int32) (m_isTaking' : Int32) (m_keptIn' : Int32) (m_kept' : Nat → Int32), F_H_drop dy th go hm wt = some r ∧ F_M_drop dy dn th fg hm m_kept kd lf wi wt = some (r, dy, dn, m_isTaking', m_keptIn', m_place0', th, m_thrown', fg, hm, m_kept', kd, lf, wi, wt) := by
  obtain ⟨⟨n, m, q, hn, hm8, hq, rfl, rfl, rfl, hw, ht, hd, hf⟩, -⟩ := hI
  refine ⟨ixO (fmx (kmx (fun t => kwo go wt hm t m)) n), 0, nI 41, (if n = 0 then 1 else 0), 1, cpf m_kept (evS (nI n) (nI m) (nI q) wt kd fg hm wi lf) 41, ?_, ?_⟩
  · unfold F_H_drop
    rw [C_dropped hn hm8, Option.bind_some]
  · unfold F_M_drop
    rw [M_think, Option.bind_some]
    refine (congrArg (fun z => Option.bind z _) (wh_for (fun i => (ixO (fmx (kmx (fun t => kwo go wt hm t m)) i), vlO (-1) (fun t => nI (kwo go wt hm t m)) (fmx (kmx (fun t => kwo go wt hm t m)) i), nI i, nI m, nI q, (if i = 0 then 1 else 0), 1, nI 41, nI n, fg, hm, cpf m_kept (evS (nI n) (nI m) (nI q) wt kd fg hm wi lf) 41, kd, lf, wi, wt)) n (ixO (fmx (kmx (fun t => kwo go wt hm t m)) n), nI m, nI q, (if n = 0 then 1 else 0), 1, nI 41, nI n, fg, hm, cpf m_kept (evS (nI n) (nI m) (nI q) wt kd fg hm wi lf) 41, kd, lf, wi, wt) (fun i hi => ?_) ?_ 400 (by omega))).trans ?_
    · show F_M_drop_L16 (ixO (fmx (kmx (fun t => kwo go wt hm t m)) i)) (vlO (-1) (fun t => nI (kwo go wt hm t m)) (fmx (kmx (fun t => kwo go wt hm t m)) i)) (nI i) (nI m) (nI q) (if i = 0 then 1 else 0) 1 (nI 41) (nI n) fg hm (cpf m_kept (evS (nI n) (nI m) (nI q) wt kd fg hm wi lf) 41) kd lf wi wt = some (Sum.inl (ixO (fmx (kmx (fun t => kwo go wt hm t m)) (i + 1)), vlO (-1) (fun t => nI (kwo go wt hm t m)) (fmx (kmx (fun t => kwo go wt hm t m)) (i + 1)), nI (i + 1), nI m, nI q, (if i + 1 = 0 then 1 else 0), 1, nI 41, nI n, fg, hm, cpf m_kept (evS (nI n) (nI m) (nI q) wt kd fg hm wi lf) 41, kd, lf, wi, wt))
      have hd2 : ∀ j, j < m → ∃ h, h < 2 ^ n ∧ cpf hm (fun d => hm d &&& (nI (2 ^ i) ^^^ (-1))) m j = nI h := by
        intro j hj
        obtain ⟨g, a1, a2⟩ := hd j hj
        rw [cpf_at hj, a2]
        exact and_lt hn a1 _
      have eL : F_M_likelyDays (nI m) (nI n) fg (cpf hm (fun d => hm d &&& (nI (2 ^ i) ^^^ (-1))) m) kd wt = some (nI (kwo go wt hm i m)) := by
        refine M_likelyD hn hm8 ht hd2 (fun d => kwo go wt hm i d) rfl (fun d hdm => ?_)
        rw [cpf_at hdm]
        rfl
      have eB : cpf (cpf hm (fun d => hm d &&& (nI (2 ^ i) ^^^ (-1))) m) hm 8 = hm := cpf_back (fun j hj => rfl) (fun j hj => if_neg (by omega))
      unfold F_M_drop_L16 F_M_drop_J78_11
      rw [if_neg (nI_leN hi (by omega)), M_cut hm8 (show i < 8 by omega), Option.bind_some, eL, Option.bind_some, M_again (evS_Enc m_kept (nI n) (nI m) (nI q) wt kd fg hm wi lf), Option.bind_some, cpf_id, cpf_id, cpf_id, cpf_id, cpf_id, eB, nI_1, if_neg (show ¬ i + 1 = 0 by omega)]
      have h1 := kwo_le go wt hm i m
      cases e : fmx (kmx (fun t => kwo go wt hm t m)) i with
      | none =>
        rw [fmx_1 e]
        have c2 : ¬ nI (kwo go wt hm i m) ≤ -1 := neg1_lt (by omega)
        exact (if_neg c2).trans (if_neg c2)
      | some b =>
        have hb := fmx_lt _ i b e
        have h2 := kwo_le go wt hm b m
        by_cases c : kwo go wt hm i m ≤ kwo go wt hm b m
        · have c2 : nI (kwo go wt hm i m) ≤ nI (kwo go wt hm b m) := (nI_leI (by omega) (by omega)).mpr c
          rw [fmx_y e (decide_eq_true c)]
          exact (if_pos c2).trans (if_pos c2)
        · have c2 : ¬ nI (kwo go wt hm i m) ≤ nI (kwo go wt hm b m) := fun h => c ((nI_leI (by omega) (by omega)).mp h)
          rw [fmx_n e (fun h => c (of_decide_eq_true h))]
          exact (if_neg c2).trans (if_neg c2)
    · show F_M_drop_L16 _ _ (nI n) (nI m) (nI q) _ _ _ (nI n) _ _ _ _ _ _ _ = _
      unfold F_M_drop_L16
      rw [if_pos (by rw [i32_le]; omega)]
    · rfl
