-- two days that share no weather
def apx (go hm : Nat → Int32) (i : Nat) (a : Int32) : Nat → Int32
  | 0 => a
  | k + 1 => if (CB go (hm i) &&& CB go (hm (i + 1 + k))) = 0 then apx go hm i a k + 1 else apx go hm i a k
def apo (go hm : Nat → Int32) (m : Nat) : Nat → Int32
  | 0 => 0
  | i + 1 => apx go hm i (apo go hm m i) (m - (i + 1))
theorem C_apart {go hm : Nat → Int32} {m : Nat} (hm8 : m ≤ 8) : F_Dia_twosApart (nI m) go hm = some (apo go hm m m) := by
  unfold F_Dia_twosApart
  refine (wh_forB (fun i => (apo go hm m i, nI i)) m (apo go hm m m) 400 (by omega) (fun i hi => ?_) ?_).trans rfl
  · show F_Dia_twosApart_L4 (nI m) go hm (apo go hm m i) (nI i) = some (Sum.inl (apo go hm m (i + 1), nI (i + 1)))
    unfold F_Dia_twosApart_L4
    rw [if_neg (nleC 8 8 (Nat.lt_of_lt_of_le hi hm8) (by omega) rfl), if_neg (nI_leN hi (by omega)), C_ham hm8 hi, Option.bind_some, C_could, Option.bind_some, nI_1]
    refine (wh_forB (fun k => (apx go hm i (apo go hm m i) k, nI (i + 1 + k))) (m - (i + 1)) (apo go hm m (i + 1)) 400 (by omega) (fun k hk => ?_) ?_).trans rfl
    · show F_Dia_twosApart_L33 (nI m) go hm (CB go (hm i)) (apx go hm i (apo go hm m i) k) (nI (i + 1 + k)) = some (Sum.inl (apx go hm i (apo go hm m i) (k + 1), nI (i + 1 + k + 1)))
      have hk2 : i + 1 + k < m := by omega
      unfold F_Dia_twosApart_L33
      rw [if_neg (nleC 8 8 (Nat.lt_of_lt_of_le hk2 hm8) (by omega) rfl), if_neg (nI_leN hk2 (by omega)), C_ham hm8 hk2, Option.bind_some, C_could, Option.bind_some, nI_1]
      show (if (CB go (hm i) &&& CB go (hm (i + 1 + k))) = 0 then _ else _) = _
      by_cases c : (CB go (hm i) &&& CB go (hm (i + 1 + k))) = 0
      · rw [if_pos c, apx, if_pos c]
      · rw [if_neg c, apx, if_neg c]
    · show F_Dia_twosApart_L33 (nI m) go hm (CB go (hm i)) (apo go hm m (i + 1)) (nI (i + 1 + (m - (i + 1)))) = _
      rw [show i + 1 + (m - (i + 1)) = m by omega]
      unfold F_Dia_twosApart_L33
      rw [if_pos (nI_le (Nat.le_refl m) (by omega))]
      split <;> rfl
  · show F_Dia_twosApart_L4 (nI m) go hm _ (nI m) = _
    unfold F_Dia_twosApart_L4
    rw [if_pos (nI_le (Nat.le_refl m) (by omega))]
    split <;> rfl
theorem P_apart {hk : Int32} {th : Int32} {dy : Int32} {dn : Int32} {wt : Nat → Int32} {kd : Nat → Int32} {fg : Nat → Int32} {go : Nat → Int32} {hm : Nat → Int32} {wi : Nat → Int32} {lf : Nat → Int32} {kth : Int32} {kdy : Int32} {kdn : Int32} {kwt : Nat → Int32} {kkd : Nat → Int32} {kfg : Nat → Int32} {kgo : Nat → Int32} {khm : Nat → Int32} {kwi : Nat → Int32} {klf : Nat → Int32} {sc : Int32} {sg : Nat → Nat} {sp : Nat → Int32} {sl : Nat → Int32} {sb : Nat → Int32} {sf : Nat → Int32} {sd : Nat → Int32} {lc : Int32} {lt : Nat → Int32} {nc : Int32} {nu : Nat → Int32} {im : Nat → Int32} {tu : Nat → Int32} (hI : Inv th dy dn wt kd fg go hm wi lf hk kth kdy kdn kwt kkd kfg kgo khm kwi klf im sc sg sp sl sb sf sd tu lt lc nu nc) : ∃ (r : Int32) (m_thrown' : Int32), F_H_apart dy go hm = some r ∧ F_M_apart dy th fg hm kd = some (r, m_thrown') := by
  obtain ⟨⟨n, m, q, hn, hm8, hq, rfl, rfl, rfl, hw, ht, hd, hf⟩, -⟩ := hI
  refine ⟨apo go hm m m, 0, ?_, ?_⟩
  · unfold F_H_apart
    rw [C_apart hm8]
    rfl
  · unfold F_M_apart
    refine (wh_forB (fun i => (apo go hm m i, nI i)) m (apo go hm m m) 400 (by omega) (fun i hi => ?_) ?_).trans rfl
    · show F_M_apart_L9 (nI m) (nI n) fg hm kd (apo go hm m i) (nI i) = some (Sum.inl (apo go hm m (i + 1), nI (i + 1)))
      unfold F_M_apart_L9
      rw [if_neg (nI_leN hi (by omega)), nI_1]
      refine (wh_forB (fun k => (apx go hm i (apo go hm m i) k, nI (i + 1 + k))) (m - (i + 1)) (apo go hm m (i + 1)) 400 (by omega) (fun k hk => ?_) ?_).trans rfl
      · show F_M_apart_L21 (nI m) (nI n) fg hm kd (nI i) (apx go hm i (apo go hm m i) k) (nI (i + 1 + k)) = some (Sum.inl (apx go hm i (apo go hm m i) (k + 1), nI (i + 1 + k + 1)))
        have hk2 : i + 1 + k < m := by omega
        obtain ⟨h1, a1, a2⟩ := hd i hi
        obtain ⟨h2, b1, b2⟩ := hd (i + 1 + k) hk2
        unfold F_M_apart_L21
        rw [if_neg (nI_leN hk2 (by omega)), ck_nI _ (show i < 8 by omega) (by omega), nI_clamp (show i < 2 ^ 31 by omega), nI_clamp (show i + 1 + k < 2 ^ 31 by omega), a2, M_CB hn ht a1, ← a2, Option.bind_some, ck_nI _ (show i + 1 + k < 8 by omega) (by omega), b2, M_CB hn ht b1, ← b2, Option.bind_some, nI_1]
        by_cases c : (CB go (hm i) &&& CB go (hm (i + 1 + k))) = 0
        · rw [if_pos c, apx, if_pos c]
        · rw [if_neg c, apx, if_neg c, Int32.add_zero]
      · show F_M_apart_L21 (nI m) (nI n) fg hm kd (nI i) (apo go hm m (i + 1)) (nI (i + 1 + (m - (i + 1)))) = _
        rw [show i + 1 + (m - (i + 1)) = m by omega]
        unfold F_M_apart_L21
        rw [if_pos (nI_le (Nat.le_refl m) (by omega))]
    · show F_M_apart_L9 (nI m) (nI n) fg hm kd _ (nI m) = _
      unfold F_M_apart_L9
      rw [if_pos (nI_le (Nat.le_refl m) (by omega))]
