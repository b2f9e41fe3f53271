-- SPEC: heavy, dear; a state's facts
def hvf (kd fg : Nat → Int32) (t : Nat) : Int32 := (F_Kin_heavy (kd t) (fg t)).getD 0
def drf (kd fg : Nat → Int32) (t : Nat) : Int32 := (F_Kin_dear (kd t) (fg t)).getD 0
theorem heavy_some (a b : Int32) : F_Kin_heavy a b = some ((F_Kin_heavy a b).getD 0) := by
  unfold F_Kin_heavy
  repeat' split
  all_goals rfl
theorem dear_some (a b : Int32) : F_Kin_dear a b = some ((F_Kin_dear a b).getD 0) := by
  unfold F_Kin_dear
  by_cases h1 : a = 1
  · rw [if_pos h1]; rfl
  by_cases h2 : a = 2
  · rw [if_neg h1, if_pos h2]; rfl
  by_cases h3 : a = 3
  · rw [if_neg h1, if_neg h2, if_pos h3]; rfl
  by_cases h4 : a = 4
  · rw [if_neg h1, if_neg h2, if_neg h3, if_pos h4]; rfl
  by_cases h5 : a = 5
  · rw [if_neg h1, if_neg h2, if_neg h3, if_neg h4, if_pos h5]; rfl
  · rw [if_neg h1, if_neg h2, if_neg h3, if_neg h4, if_neg h5]; rfl
set_option maxRecDepth 100000 in
theorem hd_fin : ∀ k : Fin 6, ∀ f : Fin 10, F_M_heavyOf (fun _ => nI f.val) (fun _ => nI k.val) 0 = F_Kin_heavy (nI k.val) (nI f.val) ∧ F_M_dearOf (fun _ => nI f.val) (fun _ => nI k.val) 0 = F_Kin_dear (nI k.val) (nI f.val) := by decide +kernel
theorem M_heavy {fg kd : Nat → Int32} {t k f : Nat} (ht : t < 8) (hk : k < 6) (hf : f ≤ 9) (e1 : kd t = nI k) (e2 : fg t = nI f) : F_M_heavyOf fg kd (nI t) = some (hvf kd fg t) := by
  have e : F_M_heavyOf fg kd (nI t) = F_M_heavyOf (fun _ => fg t) (fun _ => kd t) 0 := by
    unfold F_M_heavyOf
    rw [ck_nI _ ht (by omega), ck_nI _ ht (by omega), ck_nI _ ht (by omega), ck_nI _ ht (by omega), nI_clamp (by omega)]
    rfl
  rw [e]
  unfold hvf
  rw [e1, e2, ← heavy_some]
  exact (hd_fin ⟨k, hk⟩ ⟨f, by omega⟩).1
theorem M_dear {fg kd : Nat → Int32} {t k f : Nat} (ht : t < 8) (hk : k < 6) (hf : f ≤ 9) (e1 : kd t = nI k) (e2 : fg t = nI f) : F_M_dearOf fg kd (nI t) = some (drf kd fg t) := by
  have e : F_M_dearOf fg kd (nI t) = F_M_dearOf (fun _ => fg t) (fun _ => kd t) 0 := by
    unfold F_M_dearOf
    rw [ck_nI _ ht (by omega), ck_nI _ ht (by omega), ck_nI _ ht (by omega), ck_nI _ ht (by omega), nI_clamp (by omega)]
    rfl
  rw [e]
  unfold drf
  rw [e1, e2, ← dear_some]
  exact (hd_fin ⟨k, hk⟩ ⟨f, by omega⟩).2
theorem wsm_out (v : Nat → Int32) (h : Int32) (n : Nat) : ∀ m, n ≤ m → (∀ t, n ≤ t → t < m → bt h t = false) → wsm v h m = wsm v h n
  | 0, h1, _ => by rw [show n = 0 by omega]
  | m + 1, h1, h2 => by
    by_cases e : n = m + 1
    · rw [e]
    · rw [wsm, h2 m (by omega) (by omega)]
      exact wsm_out v h n m (by omega) (fun t ht1 ht2 => h2 t ht1 (by omega))
theorem wsm_y {v : Nat → Int32} {h : Int32} {t : Nat} (hb : bt h t = true) : wsm v h (t + 1) = wsm v h t + v t := by rw [wsm, hb]; rfl
theorem wsm_n {v : Nat → Int32} {h : Int32} {t : Nat} (hb : bt h t = false) : wsm v h (t + 1) = wsm v h t := by rw [wsm, hb]; rfl
theorem C_heavy (fg kd : Nat → Int32) (h : Int32) : F_Sta_heavyOf fg kd h = some (wsm (hvf kd fg) h 8) := by
  unfold F_Sta_heavyOf
  refine (wh_forB (fun i => (wsm (hvf kd fg) h i, nI i)) 8 (wsm (hvf kd fg) h 8) 400 (by omega) (fun i hi => ?_) ?_).trans rfl
  · show F_Sta_heavyOf_L4 fg kd h (wsm (hvf kd fg) h i) (nI i) = some (Sum.inl (wsm (hvf kd fg) h (i + 1), nI (i + 1)))
    unfold F_Sta_heavyOf_L4
    rw [if_neg (nleC 8 8 hi (by omega) rfl), holds_bt h (by omega), nI_1]
    show (if (if bt h i then (1 : Int32) else 0) = 0 then _ else ck (nI i) 8 _) = _
    rw [ck_nI _ hi (by omega), ck_nI _ hi (by omega), nI_clamp (by omega), heavy_some]
    cases hb : bt h i
    · rw [wsm_n hb]; rfl
    · rw [wsm_y hb]; rfl
  · show F_Sta_heavyOf_L4 fg kd h _ (nI 8) = _
    unfold F_Sta_heavyOf_L4
    rw [if_pos (by decide +kernel)]
theorem C_dear (fg kd : Nat → Int32) (h : Int32) : F_Sta_dearOf fg kd h = some (wsm (drf kd fg) h 8) := by
  unfold F_Sta_dearOf
  refine (wh_forB (fun i => (wsm (drf kd fg) h i, nI i)) 8 (wsm (drf kd fg) h 8) 400 (by omega) (fun i hi => ?_) ?_).trans rfl
  · show F_Sta_dearOf_L4 fg kd h (wsm (drf kd fg) h i) (nI i) = some (Sum.inl (wsm (drf kd fg) h (i + 1), nI (i + 1)))
    unfold F_Sta_dearOf_L4
    rw [if_neg (nleC 8 8 hi (by omega) rfl), holds_bt h (by omega), nI_1]
    show (if (if bt h i then (1 : Int32) else 0) = 0 then _ else ck (nI i) 8 _) = _
    rw [ck_nI _ hi (by omega), ck_nI _ hi (by omega), nI_clamp (by omega), dear_some]
    cases hb : bt h i
    · rw [wsm_n hb]; rfl
    · rw [wsm_y hb]; rfl
  · show F_Sta_dearOf_L4 fg kd h _ (nI 8) = _
    unfold F_Sta_dearOf_L4
    rw [if_pos (by decide +kernel)]
theorem M_allH {fg kd : Nat → Int32} {n : Nat} (hn : n ≤ 8) (hg : ∀ t, t < n → F_M_heavyOf fg kd (nI t) = some (hvf kd fg t)) (h : Int32) : F_M_allHeavy (nI n) fg kd h = some (wsm (hvf kd fg) h n) := by
  unfold F_M_allHeavy
  refine (wh_forB (fun i => (wsm (hvf kd fg) h i, nI i)) n (wsm (hvf kd fg) h n) 400 (by omega) (fun i hi => ?_) ?_).trans rfl
  · show F_M_allHeavy_L4 (nI n) fg kd h (wsm (hvf kd fg) h i) (nI i) = some (Sum.inl (wsm (hvf kd fg) h (i + 1), nI (i + 1)))
    unfold F_M_allHeavy_L4
    rw [if_neg (nI_leN hi (by omega)), hasBit_bt h, nI_1, hg i hi]
    cases hb : bt h i
    · rw [wsm_n hb, Int32.add_zero]; rfl
    · rw [wsm_y hb]; rfl
  · show F_M_allHeavy_L4 (nI n) fg kd h _ (nI n) = _
    unfold F_M_allHeavy_L4
    rw [if_pos (nI_le (Nat.le_refl n) (by omega))]
theorem M_allD {fg kd : Nat → Int32} {n : Nat} (hn : n ≤ 8) (hg : ∀ t, t < n → F_M_dearOf fg kd (nI t) = some (drf kd fg t)) (h : Int32) : F_M_allDear (nI n) fg kd h = some (wsm (drf kd fg) h n) := by
  unfold F_M_allDear
  refine (wh_forB (fun i => (wsm (drf kd fg) h i, nI i)) n (wsm (drf kd fg) h n) 400 (by omega) (fun i hi => ?_) ?_).trans rfl
  · show F_M_allDear_L4 (nI n) fg kd h (wsm (drf kd fg) h i) (nI i) = some (Sum.inl (wsm (drf kd fg) h (i + 1), nI (i + 1)))
    unfold F_M_allDear_L4
    rw [if_neg (nI_leN hi (by omega)), hasBit_bt h, nI_1, hg i hi]
    cases hb : bt h i
    · rw [wsm_n hb, Int32.add_zero]; rfl
    · rw [wsm_y hb]; rfl
  · show F_M_allDear_L4 (nI n) fg kd h _ (nI n) = _
    unfold F_M_allDear_L4
    rw [if_pos (nI_le (Nat.le_refl n) (by omega))]
/-- the facts of a state of n things and m days, for hampers of n things -/
def CB (go : Nat → Int32) (h : Int32) : Int32 := cbs go h 8
def LK (go wt : Nat → Int32) (h : Int32) : Int32 := (lks wt (CB go h) 6).1
theorem C_by (go wt : Nat → Int32) (h : Int32) : F_Sta_likeliestBy go wt h = some (LK go wt h) := by
  unfold F_Sta_likeliestBy
  rw [C_could]
  show (F_Sta_likeliestOf wt (cbs go h 8)).bind _ = _
  rw [C_likely]
  rfl
theorem things_fin {fg kd go : Nat → Int32} {n : Nat} (hn : n ≤ 8) (ht : ∀ j, j < n → ∃ k f, k < 6 ∧ f ≤ 9 ∧ kd j = nI k ∧ fg j = nI f ∧ go j = nI (gw k f)) : ∀ t, t < n → F_M_goesWith fg kd (nI t) = some (go t) ∧ F_M_heavyOf fg kd (nI t) = some (hvf kd fg t) ∧ F_M_dearOf fg kd (nI t) = some (drf kd fg t) := by
  intro t h
  obtain ⟨k, f, h1, h2, h3, h4, h5⟩ := ht t h
  refine ⟨?_, M_heavy (by omega) h1 h2 h3 h4, M_dear (by omega) h1 h2 h3 h4⟩
  rw [h5]
  exact M_goes (by omega) h1 h2 h3 h4
theorem M_CB {fg kd go : Nat → Int32} {n : Nat} (hn : n ≤ 8) (ht : ∀ j, j < n → ∃ k f, k < 6 ∧ f ≤ 9 ∧ kd j = nI k ∧ fg j = nI f ∧ go j = nI (gw k f)) {h : Nat} (hh : h < 2 ^ n) : F_M_couldBe (nI n) fg kd (nI h) = some (CB go (nI h)) := by
  rw [M_could hn (fun t h => (things_fin hn ht t h).1)]
  unfold CB
  rw [cbs_out go (nI h) n 8 hn (fun t h1 h2 => bt_out n hn h hh t h2 h1)]
theorem M_HV {fg kd go : Nat → Int32} {n : Nat} (hn : n ≤ 8) (ht : ∀ j, j < n → ∃ k f, k < 6 ∧ f ≤ 9 ∧ kd j = nI k ∧ fg j = nI f ∧ go j = nI (gw k f)) {h : Nat} (hh : h < 2 ^ n) : F_M_allHeavy (nI n) fg kd (nI h) = some (wsm (hvf kd fg) (nI h) 8) := by
  rw [M_allH hn (fun t h => (things_fin hn ht t h).2.1)]
  rw [wsm_out _ (nI h) n 8 hn (fun t h1 h2 => bt_out n hn h hh t h2 h1)]
theorem M_DR {fg kd go : Nat → Int32} {n : Nat} (hn : n ≤ 8) (ht : ∀ j, j < n → ∃ k f, k < 6 ∧ f ≤ 9 ∧ kd j = nI k ∧ fg j = nI f ∧ go j = nI (gw k f)) {h : Nat} (hh : h < 2 ^ n) : F_M_allDear (nI n) fg kd (nI h) = some (wsm (drf kd fg) (nI h) 8) := by
  rw [M_allD hn (fun t h => (things_fin hn ht t h).2.2)]
  rw [wsm_out _ (nI h) n 8 hn (fun t h1 h2 => bt_out n hn h hh t h2 h1)]
theorem M_on {fg kd go hm wt : Nat → Int32} {n m : Nat} (hn : n ≤ 8) (hm8 : m ≤ 8) (ht : ∀ j, j < n → ∃ k f, k < 6 ∧ f ≤ 9 ∧ kd j = nI k ∧ fg j = nI f ∧ go j = nI (gw k f)) (hd : ∀ j, j < m → ∃ h, h < 2 ^ n ∧ hm j = nI h) {d : Nat} (h : d < m) : F_M_likelyOn (nI n) fg hm kd wt (nI d) = some (LK go wt (hm d)) := by
  unfold F_M_likelyOn
  obtain ⟨hh, e1, e2⟩ := hd d h
  rw [ck_nI _ (by omega) (by omega), nI_clamp (by omega), e2, M_CB hn ht e1]
  show (F_M_likeliest wt (CB go (nI hh))).bind _ = _
  rw [M_likely]
  rfl
theorem C_ham {hm : Nat → Int32} {m : Nat} (hm8 : m ≤ 8) {d : Nat} (h : d < m) : F_Sta_hamperOf (nI m) hm (nI d) = some (hm d) := by
  unfold F_Sta_hamperOf
  rw [hasD_y h hm8]
  show ck (nI d) 8 _ = _
  rw [ck_nI _ (by omega) (by omega), nI_clamp (by omega)]
theorem C_on {go hm wt : Nat → Int32} {m : Nat} (hm8 : m ≤ 8) {d : Nat} (h : d < m) : F_Sta_likeliestOn (nI m) go hm wt (nI d) = some (LK go wt (hm d)) := by
  unfold F_Sta_likeliestOn
  rw [C_ham hm8 h]
  show (F_Sta_likeliestBy go wt (hm d)).bind _ = _
  rw [C_by]
  rfl
