-- searches with an outcome seen two ways
theorem fst1_map {α ρ : Type} (o : Nat → Option α) (j : α → ρ) : ∀ k i, fst1 (fun i => (o i).map j) i k = (fst1 o i k).map j := by
  intro k
  induction k with
  | zero => intro i; rfl
  | succ k ih =>
    intro i
    unfold fst1
    cases h : o i with
    | some r => rfl
    | none => exact ih (i + 1)
theorem wh_findM {σ ρ β α : Type} {step : σ → Option (σ ⊕ ρ)} {f : ρ → Option β} (g : Nat → σ) (n : Nat) (o : Nat → Option α) (j : α → ρ) (fin : ρ) (fuel : Nat) (hf : n < fuel) (h1 : ∀ i, i < n → step (g i) = match o i with | some r => some (.inr (j r)) | none => some (.inl (g (i + 1)))) (h2 : step (g n) = some (.inr fin)) : (wh step fuel (g 0)).bind f = f (((fst1 o 0 n).map j).getD fin) := by
  rw [← fst1_map o j]
  refine wh_findB g n (fun i => (o i).map j) fin fuel hf (fun i hi => ?_) h2
  rw [h1 i hi]
  cases o i <;> rfl
theorem lks_or (wt : Nat → Int32) (x : Int32) : ∀ t, t < 2 ^ 31 → (lks wt x t).1 = -9 ∨ ∃ w, w < t ∧ (lks wt x t).1 = nI w
  | 0, _ => Or.inl rfl
  | t + 1, ht => by
    rw [lks]
    split
    · exact Or.inr ⟨t, by omega, rfl⟩
    · rcases lks_or wt x t (by omega) with h | ⟨w, h1, h2⟩
      · exact Or.inl h
      · exact Or.inr ⟨w, by omega, h2⟩
theorem LK_or (go wt : Nat → Int32) (h : Int32) : LK go wt h = -9 ∨ ∃ w, w < 6 ∧ LK go wt h = nI w := lks_or wt (CB go h) 6 (by omega)
def jdo (go hm wt nu : Nat → Int32) (m : Nat) (i : Nat) : Option Int32 := if m ≤ i then some (nI i) else if nu i = (if LK go wt (hm i) = -9 then 9 else LK go wt (hm i)) then none else some (nI i)
theorem C_judge {go hm wt nu : Nat → Int32} {m k : Nat} (hm8 : m ≤ 8) (hk : k ≤ 12) : F_Num_firstWrong (nI k) nu (nI m) go hm wt = some ((fst1 (jdo go hm wt nu m) 0 k).getD (-9)) := by
  unfold F_Num_firstWrong
  refine (wh_findM (fun i => nI i) k (jdo go hm wt nu m) (fun r => Sum.inr r) (Sum.inl ()) 400 (by omega) (fun i hi => ?_) ?_).trans ?_
  · show F_Num_firstWrong_L2 (nI k) nu (nI m) go hm wt (nI i) = _
    unfold F_Num_firstWrong_L2 F_Num_firstWrong_J34_6
    rw [if_neg (nleC 12 12 (Nat.lt_of_lt_of_le hi hk) (by omega) rfl), if_neg (nI_leN hi (by omega)), nI_1]
    by_cases c : m ≤ i
    · have c0 : F_Sta_hasDay (nI m) (nI i) = some 0 := hasD_n (Or.inr ⟨nI_ge0 (by omega), nI_le c (by omega)⟩)
      have c1 : F_Sta_likeliestOn (nI m) go hm wt (nI i) = some (LK go wt 0) := by
        unfold F_Sta_likeliestOn F_Sta_hamperOf
        rw [c0]
        show (F_Sta_likeliestBy go wt 0).bind _ = _
        rw [C_by]
        rfl
      rw [c1, Option.bind_some, c0, jdo, if_pos c]
      split <;> rfl
    · have c' : i < m := by omega
      rw [C_on hm8 c', Option.bind_some, hasD_y c' hm8, jdo, if_neg c, ck_nI _ (show i < 12 by omega) (by omega), nI_clamp (show i < 2 ^ 31 by omega)]
      by_cases c2 : LK go wt (hm i) = -9
      · rw [if_pos c2, if_pos c2]
        by_cases c3 : nu i = 9
        · rw [if_pos c3, if_pos c3]; rfl
        · rw [if_neg c3, if_neg c3]; rfl
      · rw [if_neg c2, if_neg c2, ck_nI _ (show i < 12 by omega) (by omega)]
        by_cases c3 : nu i = LK go wt (hm i)
        · rw [if_pos c3, if_pos c3]; rfl
        · rw [if_neg c3, if_neg c3]; rfl
  · show F_Num_firstWrong_L2 (nI k) nu (nI m) go hm wt (nI k) = _
    unfold F_Num_firstWrong_L2
    rw [if_pos (nI_le (Nat.le_refl k) (by omega))]
    split <;> rfl
  · cases fst1 (jdo go hm wt nu m) 0 k <;> rfl
theorem P_judge {hk : Int32} {th : Int32} {dy : Int32} {dn : Int32} {wt : Nat → Int32} {kd : Nat → Int32} {fg : Nat → Int32} {go : Nat → Int32} {hm : Nat → Int32} {wi : Nat → Int32} {lf : Nat → Int32} {kth : Int32} {kdy : Int32} {kdn : Int32} {kwt : Nat → Int32} {kkd : Nat → Int32} {kfg : Nat → Int32} {kgo : Nat → Int32} {khm : Nat → Int32} {kwi : Nat → Int32} {klf : Nat → Int32} {sc : Int32} {sg : Nat → Nat} {sp : Nat → Int32} {sl : Nat → Int32} {sb : Nat → Int32} {sf : Nat → Int32} {sd : Nat → Int32} {lc : Int32} {lt : Nat → Int32} {nc : Int32} {nu : Nat → Int32} {im : Nat → Int32} {tu : Nat → Int32} (hI : Inv th dy dn wt kd fg go hm wi lf hk kth kdy kdn kwt kkd kfg kgo khm kwi klf im sc sg sp sl sb sf sd tu lt lc nu nc) : ∃ (r : Int32) (nc' : Int32) (m_thrown' : Int32), F_H_judge dy go hm wt nc nu = some (r, nc') ∧ F_M_judge dy nc th fg hm kd nu wt = some (r, nc', m_thrown') ∧ Inv th dy dn wt kd fg go hm wi lf hk kth kdy kdn kwt kkd kfg kgo khm kwi klf im sc sg sp sl sb sf sd tu lt lc nu nc' := by
  have hI0 := hI
  obtain ⟨⟨n, m, q, hn, hm8, hq, rfl, rfl, rfl, hw, ht, hd, hf⟩, hK, hT, hL, ⟨k, hk, rfl, hnu⟩⟩ := hI
  refine ⟨(fst1 (jdo go hm wt nu m) 0 k).getD (-9), 0, 0, ?_, ?_, ?_⟩
  · unfold F_H_judge
    rw [C_judge hm8 hk]
    rfl
  · unfold F_M_judge
    refine (wh_findM (fun i => nI i) k (jdo go hm wt nu m) (fun r => Sum.inr (r, 0, 0)) (Sum.inl ()) 400 (by omega) (fun i hi => ?_) ?_).trans ?_
    · show F_M_judge_L17 (nI m) (nI k) (nI n) fg hm kd nu wt (nI i) = _
      unfold F_M_judge_L17
      rw [if_neg (nI_leN hi (by omega)), nI_1]
      by_cases c : m ≤ i
      · rw [if_pos (nI_le c (by omega)), jdo, if_pos c]
      · have c' : i < m := by omega
        rw [if_neg (nI_leN c' (by omega)), ck_nI _ (show i < 12 by omega) (by omega), nI_clamp (show i < 2 ^ 31 by omega), M_on hn hm8 ht hd c', Option.bind_some, jdo, if_neg c, Option.bind_some]
        rcases LK_or go wt (hm i) with e | ⟨w, hw6, e⟩
        · rw [e, if_neg (show ¬ (0 : Int32) ≤ -9 by decide +kernel), if_pos rfl]
          by_cases c3 : nu i = 9
          · rw [if_pos c3, if_pos c3]
          · rw [if_neg c3, if_neg c3]
        · rw [e, if_pos (nI_pos' (show w < 2 ^ 31 by omega)), if_neg (show ¬ nI w = -9 by intro e2; have := congrArg Int32.toInt e2; rw [nI_toInt (by omega), show (-9 : Int32).toInt = -9 by decide +kernel] at this; omega)]
          by_cases c3 : nu i = nI w
          · rw [if_pos c3, if_pos c3]
          · rw [if_neg c3, if_neg c3]
    · show F_M_judge_L17 (nI m) (nI k) (nI n) fg hm kd nu wt (nI k) = _
      unfold F_M_judge_L17
      rw [if_pos (nI_le (Nat.le_refl k) (by omega))]
    · cases fst1 (jdo go hm wt nu m) 0 k <;> rfl
  · exact ⟨hI0.1, hK, hT, hL, ⟨0, by omega, rfl, fun j hj => absurd hj (by omega)⟩⟩
