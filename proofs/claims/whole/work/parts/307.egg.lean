-- two things that share the fewest weathers
theorem and63_r {x y : Int32} (h : y &&& 63 = y) : (x &&& y) &&& 63 = x &&& y := by rw [Int32.and_assoc, h]
theorem go_63 {fg kd go : Nat → Int32} {n : Nat} (ht : ∀ j, j < n → ∃ k f, k < 6 ∧ f ≤ 9 ∧ kd j = nI k ∧ fg j = nI f ∧ go j = nI (gw k f)) {j : Nat} (h : j < n) : go j &&& 63 = go j := by
  obtain ⟨k, f, hk, hf, -, -, e⟩ := ht j h
  rw [e]
  have key : ∀ (k : Fin 6) (f : Fin 10), nI (gw k.val f.val) &&& 63 = nI (gw k.val f.val) := by decide +kernel
  exact key ⟨k, hk⟩ ⟨f, by omega⟩
theorem M_ones63 {x : Int32} (h : x &&& 63 = x) : F_M_onesOf x = some (bc x) := by
  obtain ⟨n, hn, rfl⟩ := and63 h
  exact M_ones (by omega)
theorem M_go {fg kd go : Nat → Int32} {n : Nat} (hn : n ≤ 8) (ht : ∀ j, j < n → ∃ k f, k < 6 ∧ f ≤ 9 ∧ kd j = nI k ∧ fg j = nI f ∧ go j = nI (gw k f)) {j : Nat} (h : j < n) : F_M_goesWith fg kd (nI j) = some (go j) := by
  obtain ⟨k, f, hk, hf, e1, e2, e⟩ := ht j h
  rw [e]
  exact M_goes (by omega) hk hf e1 e2
def nex (go : Nat → Int32) (i : Nat) (s : Int32 × Int32) : Nat → Int32 × Int32
  | 0 => s
  | k + 1 => if bc (go i &&& go (i + 1 + k)) ≤ 0 then nex go i s k else if (nex go i s k).2 ≤ bc (go i &&& go (i + 1 + k)) then nex go i s k else (10 * nI i + nI (i + 1 + k), bc (go i &&& go (i + 1 + k)))
def neo (go : Nat → Int32) (n : Nat) : Nat → Int32 × Int32
  | 0 => (-9, 7)
  | i + 1 => nex go i (neo go n i) (n - (i + 1))
theorem C_egg {go : Nat → Int32} {n : Nat} (hn : n ≤ 8) : F_Set_nearestTwo (nI n) go = some (neo go n n).1 := by
  unfold F_Set_nearestTwo
  refine (wh_forB (fun i => ((neo go n i).1, (neo go n i).2, nI i)) n (neo go n n).1 400 (by omega) (fun i hi => ?_) ?_).trans rfl
  · show F_Set_nearestTwo_L8 (nI n) go (neo go n i).1 (neo go n i).2 (nI i) = some (Sum.inl ((neo go n (i + 1)).1, (neo go n (i + 1)).2, nI (i + 1)))
    unfold F_Set_nearestTwo_L8
    rw [if_neg (nleC 8 8 (Nat.lt_of_lt_of_le hi hn) (by omega) rfl), if_neg (nI_leN hi (by omega)), nI_1]
    refine (wh_forB (fun k => ((nex go i (neo go n i) k).1, (nex go i (neo go n i) k).2, nI (i + 1 + k))) (n - (i + 1)) ((neo go n (i + 1)).1, (neo go n (i + 1)).2) 400 (by omega) (fun k hk => ?_) ?_).trans rfl
    · show F_Set_nearestTwo_L27 (nI n) go (nI i) (nex go i (neo go n i) k).1 (nex go i (neo go n i) k).2 (nI (i + 1 + k)) = some (Sum.inl ((nex go i (neo go n i) (k + 1)).1, (nex go i (neo go n i) (k + 1)).2, nI (i + 1 + k + 1)))
      have hk2 : i + 1 + k < n := by omega
      unfold F_Set_nearestTwo_L27
      rw [if_neg (nleC 8 8 (Nat.lt_of_lt_of_le hk2 hn) (by omega) rfl), if_neg (nI_leN hk2 (by omega)), ck_nI _ (show i < 8 by omega) (by omega), ck_nI _ (show i + 1 + k < 8 by omega) (by omega), nI_clamp (show i < 2 ^ 31 by omega), nI_clamp (show i + 1 + k < 2 ^ 31 by omega), J_bc, Option.bind_some, nI_1, nex]
      by_cases c : bc (go i &&& go (i + 1 + k)) ≤ 0
      · rw [if_pos c, if_pos c]
      · rw [if_neg c, if_neg c]
        by_cases c2 : (nex go i (neo go n i) k).2 ≤ bc (go i &&& go (i + 1 + k))
        · rw [if_pos c2, if_pos c2]
        · rw [if_neg c2, if_neg c2]
    · show F_Set_nearestTwo_L27 (nI n) go (nI i) (neo go n (i + 1)).1 (neo go n (i + 1)).2 (nI (i + 1 + (n - (i + 1)))) = _
      rw [show i + 1 + (n - (i + 1)) = n by omega]
      unfold F_Set_nearestTwo_L27
      rw [if_pos (nI_le (Nat.le_refl n) (by omega))]
      split <;> rfl
  · show F_Set_nearestTwo_L8 (nI n) go _ _ (nI n) = _
    unfold F_Set_nearestTwo_L8
    rw [if_pos (nI_le (Nat.le_refl n) (by omega))]
    split <;> rfl
theorem P_eggAndRope {hk : Int32} {th : Int32} {dy : Int32} {dn : Int32} {wt : Nat → Int32} {kd : Nat → Int32} {fg : Nat → Int32} {go : Nat → Int32} {hm : Nat → Int32} {wi : Nat → Int32} {lf : Nat → Int32} {kth : Int32} {kdy : Int32} {kdn : Int32} {kwt : Nat → Int32} {kkd : Nat → Int32} {kfg : Nat → Int32} {kgo : Nat → Int32} {khm : Nat → Int32} {kwi : Nat → Int32} {klf : Nat → Int32} {sc : Int32} {sg : Nat → Nat} {sp : Nat → Int32} {sl : Nat → Int32} {sb : Nat → Int32} {sf : Nat → Int32} {sd : Nat → Int32} {lc : Int32} {lt : Nat → Int32} {nc : Int32} {nu : Nat → Int32} {im : Nat → Int32} {tu : Nat → Int32} (hI : Inv th dy dn wt kd fg go hm wi lf hk kth kdy kdn kwt kkd kfg kgo khm kwi klf im sc sg sp sl sb sf sd tu lt lc nu nc) : ∃ (r : Int32) (m_thrown' : Int32), F_H_eggAndRope th go = some r ∧ F_M_eggAndRope th fg kd = some (r, m_thrown') := by
  obtain ⟨⟨n, m, q, hn, hm8, hq, rfl, rfl, rfl, hw, ht, hd, hf⟩, -⟩ := hI
  refine ⟨(neo go n n).1, 0, ?_, ?_⟩
  · unfold F_H_eggAndRope
    rw [C_egg hn]
    rfl
  · unfold F_M_eggAndRope
    refine (wh_forB (fun i => ((neo go n i).1, (neo go n i).2, nI i)) n (neo go n n).1 400 (by omega) (fun i hi => ?_) ?_).trans rfl
    · show F_M_eggAndRope_L13 (nI n) fg kd (neo go n i).1 (neo go n i).2 (nI i) = some (Sum.inl ((neo go n (i + 1)).1, (neo go n (i + 1)).2, nI (i + 1)))
      unfold F_M_eggAndRope_L13
      rw [if_neg (nI_leN hi (by omega)), nI_1]
      refine (wh_forB (fun k => ((nex go i (neo go n i) k).1, (nex go i (neo go n i) k).2, nI (i + 1 + k))) (n - (i + 1)) ((neo go n (i + 1)).1, (neo go n (i + 1)).2) 400 (by omega) (fun k hk => ?_) ?_).trans rfl
      · show F_M_eggAndRope_L26 (nI n) fg kd (nI i) (nex go i (neo go n i) k).1 (nex go i (neo go n i) k).2 (nI (i + 1 + k)) = some (Sum.inl ((nex go i (neo go n i) (k + 1)).1, (nex go i (neo go n i) (k + 1)).2, nI (i + 1 + k + 1)))
        have hk2 : i + 1 + k < n := by omega
        unfold F_M_eggAndRope_L26
        rw [if_neg (nI_leN hk2 (by omega)), M_go hn ht hi, Option.bind_some, M_go hn ht hk2, Option.bind_some, M_ones63 (and63_r (go_63 ht hk2)), Option.bind_some, nex, ← nI_1]
        by_cases c : bc (go i &&& go (i + 1 + k)) ≤ 0
        · rw [if_pos c, if_pos c]; rfl
        · rw [if_neg c, if_neg c]
          by_cases c2 : (nex go i (neo go n i) k).2 ≤ bc (go i &&& go (i + 1 + k))
          · rw [if_pos c2, if_pos c2]; rfl
          · rw [if_neg c2, if_neg c2]; rfl
      · show F_M_eggAndRope_L26 (nI n) fg kd (nI i) (neo go n (i + 1)).1 (neo go n (i + 1)).2 (nI (i + 1 + (n - (i + 1)))) = _
        rw [show i + 1 + (n - (i + 1)) = n by omega]
        unfold F_M_eggAndRope_L26
        rw [if_pos (nI_le (Nat.le_refl n) (by omega))]
    · show F_M_eggAndRope_L13 (nI n) fg kd _ _ (nI n) = _
      unfold F_M_eggAndRope_L13
      rw [if_pos (nI_le (Nat.le_refl n) (by omega))]
