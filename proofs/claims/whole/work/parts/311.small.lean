-- sets of things
theorem shl_n {n : Nat} (hn : n ≤ 8) : (1 : Int32) <<< ((nI n) &&& 31) = nI (2 ^ n) := by
  have key : ∀ n : Fin 9, (1 : Int32) <<< ((nI n.val) &&& 31) = nI (2 ^ n.val) := by decide +kernel
  exact key ⟨n, by omega⟩
theorem pow_le {n : Nat} (hn : n ≤ 8) : 2 ^ n ≤ 256 ∧ 1 ≤ 2 ^ n := ⟨Nat.pow_le_pow_right (by omega) hn, Nat.one_le_two_pow⟩
theorem C_sets {n : Nat} (hn : n ≤ 8) : F_Sta_allThings (nI n) = some (nI (2 ^ n - 1)) := by
  have key : ∀ n : Fin 9, F_Sta_allThings (nI n.val) = some (nI (2 ^ n.val - 1)) := by decide +kernel
  exact key ⟨n, by omega⟩
theorem bc_le {s : Nat} (hs : s < 256) : ¬ (9 : Int32) ≤ bc (nI s) := by
  have key : ∀ s : Fin 256, ¬ (9 : Int32) ≤ bc (nI s.val) := by decide +kernel
  exact key ⟨s, hs⟩
theorem in_all {n s : Nat} (hn : n ≤ 8) (hs : s < 2 ^ n) : (nI s &&& (nI (2 ^ n - 1) ^^^ (-1))) = 0 := by
  have key : ∀ n : Fin 9, ∀ s : Fin 256, s.val < 2 ^ n.val → (nI s.val &&& (nI (2 ^ n.val - 1) ^^^ (-1))) = 0 := by decide +kernel
  exact key ⟨n, by omega⟩ ⟨s, lt256 hs hn⟩ hs
def sms (go : Nat → Int32) (X : Int32) : Nat → Option Nat
  | 0 => none
  | s + 1 => match sms go X s with
    | none => if CB go (nI s) = X then some s else none
    | some b => if bc (nI b) ≤ bc (nI s) then some b else if CB go (nI s) = X then some s else some b
theorem sms_lt (go : Nat → Int32) (X : Int32) : ∀ s b, sms go X s = some b → b < s
  | 0, b, h => by cases h
  | s + 1, b, h => by
    unfold sms at h
    cases e : sms go X s with
    | none =>
      rw [e] at h
      have h' : (if CB go (nI s) = X then some s else none) = some b := h
      split at h'
      · cases h'; omega
      · cases h'
    | some b2 =>
      have := sms_lt go X s b2 e
      rw [e] at h
      have h' : (if bc (nI b2) ≤ bc (nI s) then some b2 else if CB go (nI s) = X then some s else some b2) = some b := h
      split at h'
      · cases h'; omega
      · split at h'
        · cases h'; omega
        · cases h'; omega
def smA (s : Option Nat) : Int32 := match s with | none => -9 | some b => nI b
def smB (s : Option Nat) : Int32 := match s with | none => 9 | some b => bc (nI b)
theorem C_small {go : Nat → Int32} {n : Nat} (hn : n ≤ 8) (X : Int32) : F_Set_fewest (nI n) go (nI (2 ^ n - 1)) X = some (smA (sms go X (2 ^ n))) := by
  obtain ⟨p1, p2⟩ := pow_le hn
  unfold F_Set_fewest
  refine (wh_forB (fun i => (smA (sms go X i), smB (sms go X i), nI i)) (2 ^ n) (smA (sms go X (2 ^ n))) 400 (by omega) (fun i hi => ?_) ?_).trans rfl
  · show F_Set_fewest_L10 (nI n) go (nI (2 ^ n - 1)) X (smA (sms go X i)) (smB (sms go X i)) (nI i) = some (Sum.inl (smA (sms go X (i + 1)), smB (sms go X (i + 1)), nI (i + 1)))
    unfold F_Set_fewest_L10
    rw [C_sets hn, Option.bind_some, if_neg (show ¬ nI (2 ^ n - 1) < nI i by rw [i32_lt, nI_toInt (by omega), nI_toInt (by omega)]; omega), if_pos (in_all hn hi), J_bc, Option.bind_some, C_could, Option.bind_some, Option.bind_some, nI_1, sms]
    show (if smB (sms go X i) ≤ bc (nI i) then _ else if CB go (nI i) = X then _ else _) = _
    cases e : sms go X i with
    | none =>
      show (if (9 : Int32) ≤ bc (nI i) then _ else if CB go (nI i) = X then some (Sum.inl (nI i, bc (nI i), nI (i + 1))) else some (Sum.inl (-9, 9, nI (i + 1)))) = some (Sum.inl (smA (if CB go (nI i) = X then some i else none), smB (if CB go (nI i) = X then some i else none), nI (i + 1)))
      rw [if_neg (bc_le (show i < 256 by omega))]
      by_cases c : CB go (nI i) = X
      · rw [if_pos c, if_pos c]; rfl
      · rw [if_neg c, if_neg c]; rfl
    | some b =>
      show (if bc (nI b) ≤ bc (nI i) then some (Sum.inl (nI b, bc (nI b), nI (i + 1))) else if CB go (nI i) = X then some (Sum.inl (nI i, bc (nI i), nI (i + 1))) else some (Sum.inl (nI b, bc (nI b), nI (i + 1)))) = some (Sum.inl (smA (if bc (nI b) ≤ bc (nI i) then some b else if CB go (nI i) = X then some i else some b), smB (if bc (nI b) ≤ bc (nI i) then some b else if CB go (nI i) = X then some i else some b), nI (i + 1)))
      by_cases c : bc (nI b) ≤ bc (nI i)
      · rw [if_pos c, if_pos c]; rfl
      · rw [if_neg c, if_neg c]
        by_cases c2 : CB go (nI i) = X
        · rw [if_pos c2, if_pos c2]; rfl
        · rw [if_neg c2, if_neg c2]; rfl
  · show F_Set_fewest_L10 (nI n) go (nI (2 ^ n - 1)) X _ _ (nI (2 ^ n)) = _
    unfold F_Set_fewest_L10
    rw [C_sets hn, Option.bind_some, if_pos (nI_lt (by omega) (by omega))]
theorem P_smallest {hk : Int32} {th : Int32} {dy : Int32} {dn : Int32} {wt : Nat → Int32} {kd : Nat → Int32} {fg : Nat → Int32} {go : Nat → Int32} {hm : Nat → Int32} {wi : Nat → Int32} {lf : Nat → Int32} {kth : Int32} {kdy : Int32} {kdn : Int32} {kwt : Nat → Int32} {kkd : Nat → Int32} {kfg : Nat → Int32} {kgo : Nat → Int32} {khm : Nat → Int32} {kwi : Nat → Int32} {klf : Nat → Int32} {sc : Int32} {sg : Nat → Nat} {sp : Nat → Int32} {sl : Nat → Int32} {sb : Nat → Int32} {sf : Nat → Int32} {sd : Nat → Int32} {lc : Int32} {lt : Nat → Int32} {nc : Int32} {nu : Nat → Int32} {rf : Nat → Int32} {im : Nat → Int32} {tu : Nat → Int32} (hI : Inv th dy dn wt kd fg go hm wi lf hk kth kdy kdn kwt kkd kfg kgo khm kwi klf im sc sg sp sl sb sf sd tu lt lc nu nc) (x1 : Int32) : ∃ (r : Int32) (rf' : Nat → Int32) (m_thrown' : Int32), F_H_smallest th go rf x1 = some (r, rf') ∧ F_M_smallest th fg kd rf x1 = some (r, m_thrown', rf') := by
  obtain ⟨⟨n, m, q, hn, hm8, hq, rfl, rfl, rfl, hw, ht, hd, hf⟩, -⟩ := hI
  obtain ⟨p1, p2⟩ := pow_le hn
  by_cases c1 : (1 : Int32) ≤ x1
  · by_cases c2 : x1 ≤ 63
    · refine ⟨smA (sms go x1 (2 ^ n)), rf, 0, ?_, ?_⟩
      · unfold F_H_smallest
        rw [if_pos c1, if_pos c2, C_sets hn, Option.bind_some, C_small hn]
        rfl
      · have e1 : F_M_wrongNumber x1 1 63 = some 0 := by unfold F_M_wrongNumber; rw [if_pos c1, if_pos c2]
        unfold F_M_smallest
        rw [e1, Option.bind_some, if_pos (by decide)]
        refine (wh_forB (fun i => (smA (sms go x1 i), nI i)) (2 ^ n) (smA (sms go x1 (2 ^ n))) 400 (by omega) (fun i hi => ?_) ?_).trans rfl
        · show F_M_smallest_L32 (nI n) fg kd x1 (smA (sms go x1 i)) (nI i) = some (Sum.inl (smA (sms go x1 (i + 1)), nI (i + 1)))
          unfold F_M_smallest_L32
          have hlt := sms_lt go x1 i
          rw [shl_n hn, if_neg (nI_leN hi (by omega)), sms]
          cases e : sms go x1 i with
          | none =>
            show F_M_smallest_J62_6 (nI n) fg kd (-9) (nI i) x1 1 = some (Sum.inl (smA (if CB go (nI i) = x1 then some i else none), nI (i + 1)))
            unfold F_M_smallest_J62_6
            rw [if_neg (by decide), M_CB hn ht hi, Option.bind_some, nI_1]
            by_cases c : CB go (nI i) = x1
            · rw [if_pos c, if_pos c]; rfl
            · rw [if_neg c, if_neg c]; rfl
          | some b =>
            have hb := hlt b e
            show (if nI b < 0 then _ else _) = some (Sum.inl (smA (if bc (nI b) ≤ bc (nI i) then some b else if CB go (nI i) = x1 then some i else some b), nI (i + 1)))
            rw [if_neg (nI_ge0 (show b < 2 ^ 31 by omega)), M_ones (show i < 256 by omega), Option.bind_some]
            show (F_M_onesOf (nI b)).bind _ = _
            rw [M_ones (show b < 256 by omega), Option.bind_some]
            by_cases c : bc (nI b) ≤ bc (nI i)
            · rw [if_pos c, if_pos c]
              show some (Sum.inl (nI b, nI i + 1)) = _
              rw [nI_1]; rfl
            · rw [if_neg c, if_neg c]
              unfold F_M_smallest_J57_10 F_M_smallest_J62_6
              rw [if_neg (by decide), M_CB hn ht hi, Option.bind_some, nI_1]
              by_cases c2 : CB go (nI i) = x1
              · rw [if_pos c2, if_pos c2]; rfl
              · rw [if_neg c2, if_neg c2]
        · show F_M_smallest_L32 (nI n) fg kd x1 _ (nI (2 ^ n)) = _
          unfold F_M_smallest_L32
          rw [shl_n hn, if_pos (nI_le (Nat.le_refl _) (by omega))]
    · have e1 : F_M_wrongNumber x1 1 63 = some (-6) := by unfold F_M_wrongNumber; rw [if_pos c1, if_neg c2]
      refine ⟨-6, rfx rf 6, 0, ?_, ?_⟩
      · unfold F_H_smallest; rw [if_pos c1, if_neg c2]; rfl
      · unfold F_M_smallest; rw [e1]; rfl
  · have e1 : F_M_wrongNumber x1 1 63 = some (-4) := by unfold F_M_wrongNumber; rw [if_neg c1]
    refine ⟨-4, rfx rf 4, 0, ?_, ?_⟩
    · unfold F_H_smallest; rw [if_neg c1]; rfl
    · unfold F_M_smallest; rw [e1]; rfl
