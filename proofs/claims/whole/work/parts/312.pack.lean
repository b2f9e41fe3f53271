-- the least heavy, the most dear
def pkk (keep : Nat → Nat → Bool) (go : Nat → Int32) (X : Int32) : Nat → Option Nat
  | 0 => none
  | s + 1 => match pkk keep go X s with
    | none => if CB go (nI s) = X then some s else none
    | some b => if keep b s = true then some b else if CB go (nI s) = X then some s else some b
theorem pkk_lt (keep : Nat → Nat → Bool) (go : Nat → Int32) (X : Int32) : ∀ s b, pkk keep go X s = some b → b < s
  | 0, b, h => by cases h
  | s + 1, b, h => by
    unfold pkk at h
    cases e : pkk keep go X s with
    | none =>
      rw [e] at h
      have h' : (if CB go (nI s) = X then some s else none) = some b := h
      split at h'
      · cases h'; omega
      · cases h'
    | some b2 =>
      have := pkk_lt keep go X s b2 e
      rw [e] at h
      have h' : (if keep b2 s = true then some b2 else if CB go (nI s) = X then some s else some b2) = some b := h
      split at h'
      · cases h'; omega
      · split at h'
        · cases h'; omega
        · cases h'; omega
def kpH (kd fg : Nat → Int32) (b s : Nat) : Bool := decide (wsm (hvf kd fg) (nI b) 8 ≤ wsm (hvf kd fg) (nI s) 8)
def kpD (kd fg : Nat → Int32) (b s : Nat) : Bool := decide (wsm (drf kd fg) (nI s) 8 ≤ wsm (drf kd fg) (nI b) 8)
theorem C_packH {fg kd go : Nat → Int32} {n : Nat} (hn : n ≤ 8) (X : Int32) : F_Set_leastHeavy (nI n) fg go kd X = some (smA (pkk (kpH kd fg) go X (2 ^ n))) := by
  obtain ⟨p1, p2⟩ := pow_le hn
  unfold F_Set_leastHeavy
  refine (wh_forB (fun i => (smA (pkk (kpH kd fg) go X i), nI i)) (2 ^ n) (smA (pkk (kpH kd fg) go X (2 ^ n))) 400 (by omega) (fun i hi => ?_) ?_).trans rfl
  · show F_Set_leastHeavy_L5 (nI n) fg go kd X (smA (pkk (kpH kd fg) go X i)) (nI i) = some (Sum.inl (smA (pkk (kpH kd fg) go X (i + 1)), nI (i + 1)))
    have hlt := pkk_lt (kpH kd fg) go X i
    unfold F_Set_leastHeavy_L5 F_Set_leastHeavy_J32_9 F_Set_leastHeavy_J37_5
    rw [C_sets hn, Option.bind_some, if_neg (show ¬ nI (2 ^ n - 1) < nI i by rw [i32_lt, nI_toInt (by omega), nI_toInt (by omega)]; omega), C_could, Option.bind_some, nI_1, pkk]
    cases e : pkk (kpH kd fg) go X i with
    | none =>
      show (if CB go (nI i) = X then _ else _) = some (Sum.inl (smA (if CB go (nI i) = X then some i else none), nI (i + 1)))
      by_cases c : CB go (nI i) = X
      · rw [if_pos c, if_pos c]; rfl
      · rw [if_neg c, if_neg c]
    | some b =>
      have hb := hlt b e
      show (if nI b = -9 then _ else _) = some (Sum.inl (smA (if kpH kd fg b i = true then some b else if CB go (nI i) = X then some i else some b), nI (i + 1)))
      rw [if_neg (nI_ne9 (show b < 2 ^ 31 by omega)), C_heavy, Option.bind_some]
      show (F_Sta_heavyOf fg kd (nI b)).bind _ = _
      rw [C_heavy, Option.bind_some]
      by_cases c : wsm (hvf kd fg) (nI b) 8 ≤ wsm (hvf kd fg) (nI i) 8
      · rw [if_pos c, if_pos (show kpH kd fg b i = true from decide_eq_true c)]; rfl
      · rw [if_neg c, if_neg (show ¬ kpH kd fg b i = true from fun h => c (of_decide_eq_true h))]
        show (if CB go (nI i) = X then _ else _) = _
        by_cases c2 : CB go (nI i) = X
        · rw [if_pos c2, if_pos c2]; rfl
        · rw [if_neg c2, if_neg c2]
  · show F_Set_leastHeavy_L5 (nI n) fg go kd X _ (nI (2 ^ n)) = _
    unfold F_Set_leastHeavy_L5
    rw [C_sets hn, Option.bind_some, if_pos (nI_lt (by omega) (by omega))]
theorem C_packD {fg kd go : Nat → Int32} {n : Nat} (hn : n ≤ 8) (X : Int32) : F_Set_mostDear (nI n) fg go kd X = some (smA (pkk (kpD kd fg) go X (2 ^ n))) := by
  obtain ⟨p1, p2⟩ := pow_le hn
  unfold F_Set_mostDear
  refine (wh_forB (fun i => (smA (pkk (kpD kd fg) go X i), nI i)) (2 ^ n) (smA (pkk (kpD kd fg) go X (2 ^ n))) 400 (by omega) (fun i hi => ?_) ?_).trans rfl
  · show F_Set_mostDear_L5 (nI n) fg go kd X (smA (pkk (kpD kd fg) go X i)) (nI i) = some (Sum.inl (smA (pkk (kpD kd fg) go X (i + 1)), nI (i + 1)))
    have hlt := pkk_lt (kpD kd fg) go X i
    unfold F_Set_mostDear_L5 F_Set_mostDear_J32_9 F_Set_mostDear_J37_5
    rw [C_sets hn, Option.bind_some, if_neg (show ¬ nI (2 ^ n - 1) < nI i by rw [i32_lt, nI_toInt (by omega), nI_toInt (by omega)]; omega), C_could, Option.bind_some, nI_1, pkk]
    cases e : pkk (kpD kd fg) go X i with
    | none =>
      show (if CB go (nI i) = X then _ else _) = some (Sum.inl (smA (if CB go (nI i) = X then some i else none), nI (i + 1)))
      by_cases c : CB go (nI i) = X
      · rw [if_pos c, if_pos c]; rfl
      · rw [if_neg c, if_neg c]
    | some b =>
      have hb := hlt b e
      show (if nI b = -9 then _ else _) = some (Sum.inl (smA (if kpD kd fg b i = true then some b else if CB go (nI i) = X then some i else some b), nI (i + 1)))
      rw [if_neg (nI_ne9 (show b < 2 ^ 31 by omega)), C_dear, Option.bind_some]
      show (F_Sta_dearOf fg kd (nI b)).bind _ = _
      rw [C_dear, Option.bind_some]
      by_cases c : wsm (drf kd fg) (nI i) 8 ≤ wsm (drf kd fg) (nI b) 8
      · rw [if_pos c, if_pos (show kpD kd fg b i = true from decide_eq_true c)]; rfl
      · rw [if_neg c, if_neg (show ¬ kpD kd fg b i = true from fun h => c (of_decide_eq_true h))]
        show (if CB go (nI i) = X then _ else _) = _
        by_cases c2 : CB go (nI i) = X
        · rw [if_pos c2, if_pos c2]; rfl
        · rw [if_neg c2, if_neg c2]
  · show F_Set_mostDear_L5 (nI n) fg go kd X _ (nI (2 ^ n)) = _
    unfold F_Set_mostDear_L5
    rw [C_sets hn, Option.bind_some, if_pos (nI_lt (by omega) (by omega))]
theorem dr_fin {kd fg : Nat → Int32} {t k f : Nat} (hk : k < 6) (hf : f ≤ 9) (e1 : kd t = nI k) (e2 : fg t = nI f) : ∃ d, d ≤ 99 ∧ drf kd fg t = nI d := by
  have key : ∀ k : Fin 6, ∀ f : Fin 10, (0 : Int32) ≤ (F_Kin_dear (nI k.val) (nI f.val)).getD 0 ∧ (F_Kin_dear (nI k.val) (nI f.val)).getD 0 < 100 := by decide +kernel
  have h1 : (0 : Int32) ≤ (F_Kin_dear (nI k) (nI f)).getD 0 := (key ⟨k, hk⟩ ⟨f, by omega⟩).1
  have h2 : (F_Kin_dear (nI k) (nI f)).getD 0 < 100 := (key ⟨k, hk⟩ ⟨f, by omega⟩).2
  have e : drf kd fg t = (F_Kin_dear (nI k) (nI f)).getD 0 := by unfold drf; rw [e1, e2]
  rw [e]
  rcases inR ((F_Kin_dear (nI k) (nI f)).getD 0) 100 (by omega) with ⟨d, hd, e3⟩ | h | ⟨-, h⟩
  · exact ⟨d, by omega, e3⟩
  · rw [i32_lt, Int32.toInt_zero] at h
    rw [i32_le, Int32.toInt_zero] at h1
    omega
  · rw [i32_le] at h
    rw [i32_lt] at h2
    exact absurd (Int.lt_of_le_of_lt h h2) (by decide +kernel)
theorem wsm_99 {v : Nat → Int32} {n : Nat} (hv : ∀ j, j < n → ∃ x, x ≤ 99 ∧ v j = nI x) (x : Int32) : ∀ t, t ≤ n → n ≤ 8 → ∃ s, s ≤ 99 * t ∧ wsm v x t = nI s
  | 0, _, _ => ⟨0, by omega, rfl⟩
  | t + 1, ht, hn => by
    obtain ⟨s, h1, h2⟩ := wsm_99 hv x t (by omega) hn
    cases hb : bt x t
    · exact ⟨s, by omega, by rw [wsm_n hb, h2]⟩
    · obtain ⟨y, h3, h4⟩ := hv t (by omega)
      refine ⟨s + y, by omega, ?_⟩
      rw [wsm_y hb, h2, h4]
      apply Int32.toInt_inj.mp
      rw [nI_toInt (by omega), Int32.toInt_add, nI_toInt (by omega), nI_toInt (by omega), show ((s : Int) + (y : Int)).bmod (2 ^ 32) = (s : Int) + y by apply Int.bmod_eq_of_le <;> omega]
      omega
theorem dr_99 {kd fg go : Nat → Int32} {n : Nat} (hn : n ≤ 8) (ht : ∀ j, j < n → ∃ k f, k < 6 ∧ f ≤ 9 ∧ kd j = nI k ∧ fg j = nI f ∧ go j = nI (gw k f)) {h : Nat} (hh : h < 2 ^ n) : ∃ s, s < 1000 ∧ wsm (drf kd fg) (nI h) 8 = nI s := by
  rw [wsm_out (drf kd fg) (nI h) n 8 hn (fun t h1 h2 => bt_out n hn h hh t h2 h1)]
  obtain ⟨s, h1, h2⟩ := wsm_99 (v := drf kd fg) (n := n) (fun j hj => by
    obtain ⟨k, f, a, b, c, d, -⟩ := ht j hj
    exact dr_fin a b c d) (nI h) n (Nat.le_refl n) hn
  exact ⟨s, by omega, h2⟩
theorem neg_toI {a : Nat} (ha : a < 1000) : (-(nI a)).toInt = -(a : Int) := by
  rw [Int32.toInt_neg, nI_toInt (by omega)]
  apply Int.bmod_eq_of_le <;> omega
theorem neg_le {a b : Nat} (ha : a < 1000) (hb : b < 1000) : -(nI a) ≤ -(nI b) ↔ nI b ≤ nI a := by
  rw [i32_le, i32_le, neg_toI ha, neg_toI hb, nI_toInt (by omega), nI_toInt (by omega)]
  omega
