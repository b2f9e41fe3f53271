-- SPEC: bits, what a hamper could be, weights, the likeliest: both sides come to these
def bt (h : Int32) (t : Nat) : Bool := decide (((h >>> ((nI t) &&& 31)) &&& 1) = 1)
theorem holds_bt (h : Int32) {t : Nat} (ht : t < 31) : F_H_holds h (nI t) = some (if bt h t then 1 else 0) := by
  unfold F_H_holds bt
  rw [if_neg (nI_ge0 (by omega)), if_neg (nleC 31 31 ht (by omega) rfl)]
  by_cases c : ((h >>> ((nI t) &&& 31)) &&& 1) = 1
  · rw [if_pos c, decide_eq_true c]; rfl
  · rw [if_neg c, decide_eq_false c]; rfl
theorem hasBit_bt (h : Int32) (t : Nat) : F_M_hasBit h (nI t) = some (if bt h t then 1 else 0) := by
  unfold F_M_hasBit bt
  by_cases c : ((h >>> ((nI t) &&& 31)) &&& 1) = 1
  · rw [if_pos c, decide_eq_true c]; rfl
  · rw [if_neg c, decide_eq_false c]; rfl
set_option maxRecDepth 100000 in
theorem bt_out : ∀ n, n ≤ 8 → ∀ h, h < 2 ^ n → ∀ t, t < 8 → n ≤ t → bt (nI h) t = false := by
  have key : ∀ n : Fin 9, ∀ h : Fin 256, ∀ t : Fin 8, h.val < 2 ^ n.val → n.val ≤ t.val → bt (nI h.val) t.val = false := by decide +kernel
  intro n hn h hh t ht hnt
  have h2 : h < 256 := Nat.lt_of_lt_of_le hh (Nat.pow_le_pow_right (by omega) hn)
  exact key ⟨n, by omega⟩ ⟨h, h2⟩ ⟨t, ht⟩ hh hnt
def cbs (go : Nat → Int32) (h : Int32) : Nat → Int32
  | 0 => 63
  | t + 1 => if bt h t then cbs go h t &&& go t else cbs go h t
theorem cbs_63 (go : Nat → Int32) (h : Int32) : ∀ t, cbs go h t &&& 63 = cbs go h t
  | 0 => by show (63 : Int32) &&& 63 = 63; decide +kernel
  | t + 1 => by
    unfold cbs
    split
    · rw [Int32.and_assoc, Int32.and_comm (go t) 63, ← Int32.and_assoc, cbs_63 go h t]
    · exact cbs_63 go h t
theorem cbs_out (go : Nat → Int32) (h : Int32) (n : Nat) : ∀ m, n ≤ m → (∀ t, n ≤ t → t < m → bt h t = false) → cbs go h m = cbs go h n
  | 0, h1, _ => by rw [show n = 0 by omega]
  | m + 1, h1, h2 => by
    by_cases e : n = m + 1
    · rw [e]
    · rw [cbs, h2 m (by omega) (by omega)]
      exact cbs_out go h n m (by omega) (fun t ht1 ht2 => h2 t ht1 (by omega))
theorem C_could (go : Nat → Int32) (h : Int32) : F_Sta_couldBe go h = some (cbs go h 8) := by
  unfold F_Sta_couldBe
  refine (wh_forB (fun i => (cbs go h i, nI i)) 8 (cbs go h 8) 400 (by omega) (fun i hi => ?_) ?_).trans rfl
  · show F_Sta_couldBe_L5 go h (cbs go h i) (nI i) = _
    unfold F_Sta_couldBe_L5
    rw [if_neg (nleC 8 8 hi (by omega) rfl), holds_bt h (by omega), nI_1]
    show (if (if bt h i then (1 : Int32) else 0) = 0 then _ else ck (nI i) 8 _) = _
    rw [ck_nI _ hi (by omega), nI_clamp (by omega)]
    cases hb : bt h i
    · show some (Sum.inl (cbs go h i, nI (i + 1))) = some (Sum.inl (cbs go h (i + 1), nI (i + 1)))
      rw [show cbs go h (i + 1) = cbs go h i by rw [cbs, hb]; rfl]
    · show some (Sum.inl (cbs go h i &&& go i, nI (i + 1))) = some (Sum.inl (cbs go h (i + 1), nI (i + 1)))
      rw [show cbs go h (i + 1) = cbs go h i &&& go i by rw [cbs, hb]; rfl]
  · show F_Sta_couldBe_L5 go h (cbs go h 8) (nI 8) = _
    unfold F_Sta_couldBe_L5
    rw [if_pos (by decide +kernel)]
theorem goes_at (fg kd : Nat → Int32) {t : Nat} (ht : t < 8) : F_M_goesWith fg kd (nI t) = F_M_goesWith (fun _ => fg t) (fun _ => kd t) 0 := by
  unfold F_M_goesWith
  congr 2
  funext s
  unfold F_M_goesWith_L4
  rw [ck_nI _ ht (by omega), ck_nI _ ht (by omega), nI_clamp (by omega)]
  rfl
set_option maxRecDepth 100000 in
theorem goes_fin : ∀ k : Fin 6, ∀ f : Fin 10, F_M_goesWith (fun _ => nI f.val) (fun _ => nI k.val) 0 = some (nI (gw k.val f.val)) ∧ F_Kin_goesWithAll (nI k.val) (nI f.val) = some (nI (gw k.val f.val)) := by decide +kernel
theorem M_goes {fg kd : Nat → Int32} {t k f : Nat} (ht : t < 8) (hk : k < 6) (hf : f ≤ 9) (e1 : kd t = nI k) (e2 : fg t = nI f) : F_M_goesWith fg kd (nI t) = some (nI (gw k f)) := by
  rw [goes_at fg kd ht, e1, e2]
  exact (goes_fin ⟨k, hk⟩ ⟨f, by omega⟩).1
theorem M_could {fg kd go : Nat → Int32} {n : Nat} (hn : n ≤ 8) (hg : ∀ t, t < n → F_M_goesWith fg kd (nI t) = some (go t)) (h : Int32) : F_M_couldBe (nI n) fg kd h = some (cbs go h n) := by
  unfold F_M_couldBe
  refine (wh_forB (fun i => (cbs go h i, nI i)) n (cbs go h n) 400 (by omega) (fun i hi => ?_) ?_).trans rfl
  · show F_M_couldBe_L5 (nI n) fg kd h (cbs go h i) (nI i) = _
    unfold F_M_couldBe_L5
    rw [if_neg (nI_leN hi (by omega)), hasBit_bt h, nI_1, hg i hi]
    cases hb : bt h i
    · show some (Sum.inl (cbs go h i &&& 63, nI (i + 1))) = some (Sum.inl (cbs go h (i + 1), nI (i + 1)))
      rw [cbs_63, show cbs go h (i + 1) = cbs go h i by rw [cbs, hb]; rfl]
    · show some (Sum.inl (cbs go h i &&& go i, nI (i + 1))) = some (Sum.inl (cbs go h (i + 1), nI (i + 1)))
      rw [show cbs go h (i + 1) = cbs go h i &&& go i by rw [cbs, hb]; rfl]
  · show F_M_couldBe_L5 (nI n) fg kd h (cbs go h n) (nI n) = _
    unfold F_M_couldBe_L5
    rw [if_pos (nI_le (Nat.le_refl n) (by omega))]
/-- the sum of weights -/
def wsm (wt : Nat → Int32) (x : Int32) : Nat → Int32
  | 0 => 0
  | t + 1 => if bt x t then wsm wt x t + wt t else wsm wt x t
theorem C_wsum (wt : Nat → Int32) (x : Int32) : F_Sta_weightOfAll wt x = some (wsm wt x 6) := by
  unfold F_Sta_weightOfAll
  refine (wh_forB (fun i => (wsm wt x i, nI i)) 6 (wsm wt x 6) 400 (by omega) (fun i hi => ?_) ?_).trans rfl
  · show F_Sta_weightOfAll_L4 wt x (wsm wt x i) (nI i) = _
    unfold F_Sta_weightOfAll_L4
    rw [if_neg (nleC 6 6 hi (by omega) rfl), holds_bt x (by omega), nI_1]
    show (if (if bt x i then (1 : Int32) else 0) = 0 then _ else ck (nI i) 6 _) = _
    rw [ck_nI _ hi (by omega), nI_clamp (by omega)]
    cases hb : bt x i
    · show some (Sum.inl (wsm wt x i, nI (i + 1))) = some (Sum.inl (wsm wt x (i + 1), nI (i + 1)))
      rw [show wsm wt x (i + 1) = wsm wt x i by rw [wsm, hb]; rfl]
    · show some (Sum.inl (wsm wt x i + wt i, nI (i + 1))) = some (Sum.inl (wsm wt x (i + 1), nI (i + 1)))
      rw [show wsm wt x (i + 1) = wsm wt x i + wt i by rw [wsm, hb]; rfl]
  · show F_Sta_weightOfAll_L4 wt x (wsm wt x 6) (nI 6) = _
    unfold F_Sta_weightOfAll_L4
    rw [if_pos (by decide +kernel)]
theorem M_wsum (wt : Nat → Int32) (x : Int32) : F_M_weightOf wt x = some (wsm wt x 6) := by
  unfold F_M_weightOf
  refine (wh_forB (fun i => (wsm wt x i, nI i)) 6 (wsm wt x 6) 400 (by omega) (fun i hi => ?_) ?_).trans rfl
  · show F_M_weightOf_L4 wt x (wsm wt x i) (nI i) = _
    unfold F_M_weightOf_L4
    rw [if_neg (nleC 6 6 hi (by omega) rfl), hasBit_bt x, nI_1]
    show (if (if bt x i then (1 : Int32) else 0) = 0 then _ else ck (nI i) 6 _) = _
    rw [ck_nI _ hi (by omega), nI_clamp (by omega)]
    cases hb : bt x i
    · show some (Sum.inl (wsm wt x i + 0, nI (i + 1))) = some (Sum.inl (wsm wt x (i + 1), nI (i + 1)))
      rw [show wsm wt x (i + 1) = wsm wt x i by rw [wsm, hb]; rfl, Int32.add_zero]
    · show some (Sum.inl (wsm wt x i + wt i, nI (i + 1))) = some (Sum.inl (wsm wt x (i + 1), nI (i + 1)))
      rw [show wsm wt x (i + 1) = wsm wt x i + wt i by rw [wsm, hb]; rfl]
  · show F_M_weightOf_L4 wt x (wsm wt x 6) (nI 6) = _
    unfold F_M_weightOf_L4
    rw [if_pos (by decide +kernel)]
/-- the likeliest so far, and its weight -/
def lks (wt : Nat → Int32) (x : Int32) : Nat → Int32 × Int32
  | 0 => (-9, 0)
  | t + 1 => if bt x t = true ∧ ¬ wt t ≤ (lks wt x t).2 then (nI t, wt t) else lks wt x t
theorem lks_n {wt : Nat → Int32} {x : Int32} {t : Nat} (hb : bt x t = false) : lks wt x (t + 1) = lks wt x t := by
  rw [lks, if_neg]
  rw [hb]
  exact fun h => Bool.noConfusion h.1
theorem lks_le {wt : Nat → Int32} {x : Int32} {t : Nat} (c : wt t ≤ (lks wt x t).2) : lks wt x (t + 1) = lks wt x t := by
  rw [lks, if_neg]
  exact fun h => h.2 c
theorem lks_y {wt : Nat → Int32} {x : Int32} {t : Nat} (hb : bt x t = true) (c : ¬ wt t ≤ (lks wt x t).2) : lks wt x (t + 1) = (nI t, wt t) := by
  rw [lks, if_pos ⟨hb, c⟩]
theorem C_likely (wt : Nat → Int32) (x : Int32) : F_Sta_likeliestOf wt x = some (lks wt x 6).1 := by
  unfold F_Sta_likeliestOf
  refine (wh_forB (fun i => ((lks wt x i).1, (lks wt x i).2, nI i)) 6 (lks wt x 6).1 400 (by omega) (fun i hi => ?_) ?_).trans rfl
  · show F_Sta_likeliestOf_L8 wt x (lks wt x i).1 (lks wt x i).2 (nI i) = _
    unfold F_Sta_likeliestOf_L8
    rw [if_neg (nleC 6 6 hi (by omega) rfl), holds_bt x (by omega), nI_1]
    show (if (if bt x i then (1 : Int32) else 0) = 0 then _ else ck (nI i) 6 _) = _
    rw [ck_nI _ hi (by omega), ck_nI _ hi (by omega), nI_clamp (by omega)]
    show _ = some (Sum.inl ((lks wt x (i + 1)).1, (lks wt x (i + 1)).2, nI (i + 1)))
    cases hb : bt x i
    · rw [lks_n hb]; rfl
    · rw [if_neg (show ¬ (if true = true then (1 : Int32) else 0) = 0 by decide)]
      by_cases c : wt i ≤ (lks wt x i).2
      · rw [if_pos c, lks_le c]
      · rw [if_neg c, lks_y hb c]
  · show F_Sta_likeliestOf_L8 wt x _ _ (nI 6) = _
    unfold F_Sta_likeliestOf_L8
    rw [if_pos (by decide +kernel)]
theorem M_likely (wt : Nat → Int32) (x : Int32) : F_M_likeliest wt x = some (lks wt x 6).1 := by
  unfold F_M_likeliest
  refine (wh_forB (fun i => ((lks wt x i).1, (lks wt x i).2, nI i)) 6 (lks wt x 6).1 400 (by omega) (fun i hi => ?_) ?_).trans rfl
  · show F_M_likeliest_L8 wt x (lks wt x i).1 (lks wt x i).2 (nI i) = _
    unfold F_M_likeliest_L8 F_M_likeliest_J39_10 F_M_likeliest_J40_5 F_M_likeliest_J53_7
    rw [if_neg (nleC 6 6 hi (by omega) rfl), hasBit_bt x, nI_1]
    show (if (if bt x i then (1 : Int32) else 0) = 0 then _ else ck (nI i) 6 _) = _
    rw [ck_nI _ hi (by omega), ck_nI _ hi (by omega), nI_clamp (by omega)]
    show _ = some (Sum.inl ((lks wt x (i + 1)).1, (lks wt x (i + 1)).2, nI (i + 1)))
    cases hb : bt x i
    · rw [lks_n hb]; rfl
    · rw [if_neg (show ¬ (if true = true then (1 : Int32) else 0) = 0 by decide)]
      by_cases c : wt i ≤ (lks wt x i).2
      · rw [if_pos c, lks_le c, ck_nI _ hi (by omega)]; rfl
      · rw [if_neg c, lks_y hb c, ck_nI _ hi (by omega)]; rfl
  · show F_M_likeliest_L8 wt x _ _ (nI 6) = _
    unfold F_M_likeliest_L8
    rw [if_pos (by decide +kernel)]
