-- rows of weathers
theorem fst1_snoc {α : Type} (o : Nat → Option α) : ∀ k i, fst1 o i (k + 1) = match fst1 o i k with | some r => some r | none => o (i + k)
  | 0, i => by
    show (match o i with | some r => some r | none => none) = o (i + 0)
    rw [Nat.add_zero]
    cases o i <;> rfl
  | k + 1, i => by
    have ih := fst1_snoc o k (i + 1)
    rw [show i + 1 + k = i + (k + 1) by omega] at ih
    rw [fst1]
    conv => rhs; rw [fst1]
    cases o i with
    | some r => rfl
    | none => exact ih
def two (nu : Nat → Int32) (i : Nat) : Option Unit := if nu i ≤ 2 then none else some ()
theorem C_tellOf {nu : Nat → Int32} {k : Nat} (hk : k ≤ 12) : F_Num_tellOfWeathers (nI k) nu = some (if nI k ≤ 6 then (match fst1 (two nu) 0 k with | none => 1 | some _ => 0) else 0) := by
  unfold F_Num_tellOfWeathers
  by_cases c6 : nI k ≤ 6
  · rw [if_pos c6, if_pos c6]
    refine (wh_findM (fun i => nI i) k (two nu) (fun _ => Sum.inr 0) (Sum.inl ()) 400 (by omega) (fun i hi => ?_) ?_).trans ?_
    · show F_Num_tellOfWeathers_L13 (nI k) nu (nI i) = _
      unfold F_Num_tellOfWeathers_L13
      rw [if_neg (nleC 12 12 (Nat.lt_of_lt_of_le hi hk) (by omega) rfl), if_neg (nI_leN hi (by omega)), ck_nI _ (show i < 12 by omega) (by omega), nI_clamp (show i < 2 ^ 31 by omega), nI_1, two]
      by_cases c : nu i ≤ 2
      · rw [if_pos c, if_pos c]
      · rw [if_neg c, if_neg c]
    · show F_Num_tellOfWeathers_L13 (nI k) nu (nI k) = _
      unfold F_Num_tellOfWeathers_L13
      rw [if_pos (nI_le (Nat.le_refl k) (by omega))]
      split <;> rfl
    · cases fst1 (two nu) 0 k <;> rfl
  · rw [if_neg c6, if_neg c6]
def gkw (a b : Int32) (j : Nat) : Int32 := (F_Kin_goesWith a b (nI j)).getD 0
theorem gkw_fin {k f j : Nat} (hk : k < 6) (hf : f ≤ 9) (hj : j < 6) : F_Kin_goesWith (nI k) (nI f) (nI j) = some (gkw (nI k) (nI f) j) ∧ F_M_goesBy (nI k) (nI f) (nI j) = some (gkw (nI k) (nI f) j) ∧ (gkw (nI k) (nI f) j = 0 ∨ gkw (nI k) (nI f) j = 1) := by
  have key : ∀ (k : Fin 6) (f : Fin 10) (j : Fin 6), F_Kin_goesWith (nI k.val) (nI f.val) (nI j.val) = some (gkw (nI k.val) (nI f.val) j.val) ∧ F_M_goesBy (nI k.val) (nI f.val) (nI j.val) = some (gkw (nI k.val) (nI f.val) j.val) ∧ (gkw (nI k.val) (nI f.val) j.val = 0 ∨ gkw (nI k.val) (nI f.val) j.val = 1) := by decide +kernel
  exact key ⟨k, hk⟩ ⟨f, by omega⟩ ⟨j, hj⟩
def iso (nu : Nat → Int32) (a b : Int32) (j : Nat) : Option Unit := if nu j = 2 then none else if nu j = gkw a b j then none else some ()
theorem C_isSo {nu : Nat → Int32} {c k f : Nat} (hc : c ≤ 6) (hk : k < 6) (hf : f ≤ 9) : F_Num_isSo (nI c) nu (nI k) (nI f) = some (match fst1 (iso nu (nI k) (nI f)) 0 c with | none => 1 | some _ => 0) := by
  unfold F_Num_isSo
  refine (wh_findM (fun i => nI i) c (iso nu (nI k) (nI f)) (fun _ => Sum.inr 0) (Sum.inl ()) 400 (by omega) (fun i hi => ?_) ?_).trans ?_
  · show F_Num_isSo_L2 (nI c) nu (nI k) (nI f) (nI i) = _
    obtain ⟨g1, -, g2⟩ := gkw_fin hk hf (show i < 6 by omega)
    unfold F_Num_isSo_L2 F_Num_isSo_J30_6
    rw [if_neg (nleC 12 12 (show i < 12 by omega) (by omega) rfl), if_neg (nI_leN hi (by omega)), g1, Option.bind_some, ck_nI _ (show i < 12 by omega) (by omega), ck_nI _ (show i < 12 by omega) (by omega), ck_nI _ (show i < 12 by omega) (by omega), ck_nI _ (show i < 12 by omega) (by omega), nI_clamp (show i < 2 ^ 31 by omega), nI_1, iso]
    rcases g2 with e | e <;> rw [e]
    · rw [if_pos rfl]
      by_cases c2 : nu i = 2
      · rw [if_pos c2, if_pos c2]
      · rw [if_neg c2, if_neg c2]
        by_cases c3 : nu i = 0
        · rw [if_pos c3, if_pos c3]
        · rw [if_neg c3, if_neg c3]
    · rw [if_neg (by decide)]
      by_cases c2 : nu i = 2
      · rw [if_pos c2, if_pos c2]
      · rw [if_neg c2, if_neg c2]
        by_cases c3 : nu i = 1
        · rw [if_pos c3, if_pos c3]
        · rw [if_neg c3, if_neg c3]
  · show F_Num_isSo_L2 (nI c) nu (nI k) (nI f) (nI c) = _
    unfold F_Num_isSo_L2
    rw [if_pos (nI_le (Nat.le_refl c) (by omega))]
    split <;> rfl
  · cases fst1 (iso nu (nI k) (nI f)) 0 c <;> rfl
def isR (o : Nat → Option Unit) (i : Nat) : Int32 := match fst1 o 0 i with | none => 1 | some _ => 0
theorem isR_0 (o : Nat → Option Unit) : isR o 0 = 1 := rfl
theorem isR_or (o : Nat → Option Unit) (i : Nat) : isR o i = 0 ∨ isR o i = 1 := by
  unfold isR
  cases fst1 o 0 i
  · exact Or.inr rfl
  · exact Or.inl rfl
theorem isR_stop {o : Nat → Option Unit} {i : Nat} (h : isR o i = 0) : isR o (i + 1) = 0 := by
  unfold isR at h ⊢
  rw [fst1_snoc]
  cases e : fst1 o 0 i with
  | none => rw [e] at h; exact absurd h (by decide)
  | some r => rfl
theorem isR_go {o : Nat → Option Unit} {i : Nat} (h : isR o i = 1) : isR o (i + 1) = match o i with | none => 1 | some _ => 0 := by
  unfold isR at h ⊢
  rw [fst1_snoc]
  cases e : fst1 o 0 i with
  | none => rw [Nat.zero_add]
  | some r => rw [e] at h; exact absurd (show (0 : Int32) = 1 from h) (by decide)
theorem M_isSo {nu : Nat → Int32} {c k f : Nat} (hc : c ≤ 6) (hk : k < 6) (hf : f ≤ 9) (h2 : ∀ j, j < c → nu j = 0 ∨ nu j = 1 ∨ nu j = 2) : F_M_isRow (nI c) nu (nI k) (nI f) = some (isR (iso nu (nI k) (nI f)) c) := by
  unfold F_M_isRow
  refine (wh_forB (fun i => (isR (iso nu (nI k) (nI f)) i, nI i)) c (isR (iso nu (nI k) (nI f)) c) 400 (by omega) (fun i hi => ?_) ?_).trans ?_
  · show F_M_isRow_L5 (nI c) nu (nI k) (nI f) (isR (iso nu (nI k) (nI f)) i) (nI i) = some (Sum.inl (isR (iso nu (nI k) (nI f)) (i + 1), nI (i + 1)))
    obtain ⟨-, g1, g2⟩ := gkw_fin hk hf (show i < 6 by omega)
    unfold F_M_isRow_L5 F_M_isRow_J45_8
    rw [if_neg (nI_leN hi (by omega)), g1, Option.bind_some, Option.bind_some, ck_nI _ (show i < 12 by omega) (by omega), ck_nI _ (show i < 12 by omega) (by omega), nI_clamp (show i < 2 ^ 31 by omega), nI_1]
    rcases isR_or (iso nu (nI k) (nI f)) i with e | e
    · rw [isR_stop e, e, if_pos rfl]
    · rw [isR_go e, e, if_neg (by decide), iso]
      rcases h2 i hi with n0 | n0 | n0 <;> rcases g2 with g | g <;> rw [n0, g] <;> rfl
  · show F_M_isRow_L5 (nI c) nu (nI k) (nI f) _ (nI c) = _
    unfold F_M_isRow_L5
    rw [if_pos (nI_le (Nat.le_refl c) (by omega))]
  · rcases isR_or (iso nu (nI k) (nI f)) c with e | e <;> rw [e] <;> rfl
theorem M_rows1 {nu : Nat → Int32} {c : Nat} (hc : c ≤ 12) {β : Type} {f : Int32 → Option β} : (wh (fun (s : (Int32) × (Int32)) => F_M_whatKind_L43 (nI c) nu s.1 s.2) 400 ((1 : Int32), (0 : Int32))).bind f = f (isR (two nu) c) := by
  refine wh_forB (fun i => (isR (two nu) i, nI i)) c (isR (two nu) c) 400 (by omega) (fun i hi => ?_) ?_
  · show F_M_whatKind_L43 (nI c) nu (isR (two nu) i) (nI i) = some (Sum.inl (isR (two nu) (i + 1), nI (i + 1)))
    unfold F_M_whatKind_L43
    rw [if_neg (nI_leN hi (by omega)), ck_nI _ (show i < 12 by omega) (by omega), nI_clamp (show i < 2 ^ 31 by omega), nI_1]
    rcases isR_or (two nu) i with e | e
    · rw [isR_stop e, e, if_pos rfl]
    · rw [isR_go e, e, if_neg (by decide), two]
      by_cases c2 : nu i ≤ 2
      · rw [if_pos c2, if_neg (show ¬ (2 : Int32) < nu i by rw [i32_lt]; rw [i32_le] at c2; omega)]
      · rw [if_neg c2, if_pos (show (2 : Int32) < nu i by rw [i32_lt]; rw [i32_le] at c2; omega)]
  · show F_M_whatKind_L43 (nI c) nu _ (nI c) = _
    unfold F_M_whatKind_L43
    rw [if_pos (nI_le (Nat.le_refl c) (by omega))]
theorem M_rows0 {nu : Nat → Int32} {c : Nat} (hc : c ≤ 12) {β : Type} {f : Int32 → Option β} : (wh (fun (s : (Int32) × (Int32)) => F_M_whatKind_L43 (nI c) nu s.1 s.2) 400 ((0 : Int32), (0 : Int32))).bind f = f 0 := by
  refine wh_forB (fun i => ((0 : Int32), nI i)) c (0 : Int32) 400 (by omega) (fun i hi => ?_) ?_
  · show F_M_whatKind_L43 (nI c) nu 0 (nI i) = some (Sum.inl (0, nI (i + 1)))
    unfold F_M_whatKind_L43
    rw [if_neg (nI_leN hi (by omega)), if_pos rfl, nI_1]
  · show F_M_whatKind_L43 (nI c) nu _ (nI c) = _
    unfold F_M_whatKind_L43
    rw [if_pos (nI_le (Nat.le_refl c) (by omega))]
theorem C_kinds {nu : Nat → Int32} {c f : Nat} (hc : c ≤ 6) (hf : f ≤ 9) : F_Num_kindsSo (nI c) nu (nI f) = some (dbs (fun d => decide (¬ isR (iso nu (nI d) (nI f)) c = 0)) 6) := by
  unfold F_Num_kindsSo
  refine (wh_forB (fun i => (dbs (fun d => decide (¬ isR (iso nu (nI d) (nI f)) c = 0)) i, nI i)) 6 _ 400 (by omega) (fun i hi => ?_) ?_).trans rfl
  · show F_Num_kindsSo_L4 (nI c) nu (nI f) _ (nI i) = some (Sum.inl (dbs _ (i + 1), nI (i + 1)))
    unfold F_Num_kindsSo_L4
    rw [if_neg (nleC 6 6 hi (by omega) rfl), C_isSo hc hi hf, nI_1]
    show (if isR (iso nu (nI i) (nI f)) c = 0 then _ else _) = _
    by_cases e : isR (iso nu (nI i) (nI f)) c = 0
    · rw [if_pos e, dbs_n (decide_eq_false (fun h => h e))]
    · rw [if_neg e, dbs_y (decide_eq_true e)]
  · show F_Num_kindsSo_L4 (nI c) nu (nI f) _ (nI 6) = _
    unfold F_Num_kindsSo_L4
    rw [if_pos (by decide +kernel)]
theorem C_figs {nu : Nat → Int32} {c k : Nat} (hc : c ≤ 6) (hk : k < 6) : F_Num_figuresSo (nI c) nu (nI k) = some (dbs (fun d => decide (¬ isR (iso nu (nI k) (nI d)) c = 0)) 10) := by
  unfold F_Num_figuresSo
  refine (wh_forB (fun i => (dbs (fun d => decide (¬ isR (iso nu (nI k) (nI d)) c = 0)) i, nI i)) 10 _ 400 (by omega) (fun i hi => ?_) ?_).trans rfl
  · show F_Num_figuresSo_L4 (nI c) nu (nI k) _ (nI i) = some (Sum.inl (dbs _ (i + 1), nI (i + 1)))
    unfold F_Num_figuresSo_L4
    rw [if_neg (show ¬ (9 : Int32) < nI i by rw [i32_lt, show (9 : Int32).toInt = 9 by decide +kernel, nI_toInt (by omega)]; omega), C_isSo hc hk (show i ≤ 9 by omega), nI_1]
    show (if isR (iso nu (nI k) (nI i)) c = 0 then _ else _) = _
    by_cases e : isR (iso nu (nI k) (nI i)) c = 0
    · rw [if_pos e, dbs_n (decide_eq_false (fun h => h e))]
    · rw [if_neg e, dbs_y (decide_eq_true e)]
  · show F_Num_figuresSo_L4 (nI c) nu (nI k) _ (nI 10) = _
    unfold F_Num_figuresSo_L4
    rw [if_pos (by decide +kernel)]
theorem isR_all {nu : Nat → Int32} : ∀ c, isR (two nu) c = 1 → ∀ j, j < c → nu j ≤ 2
  | 0, _, j, h => absurd h (by omega)
  | c + 1, h, j, hj => by
    rcases isR_or (two nu) c with e | e
    · rw [isR_stop e] at h
      exact absurd h (by decide)
    · by_cases c2 : j = c
      · subst c2
        rw [isR_go e, two] at h
        by_cases c3 : nu j ≤ 2
        · exact c3
        · rw [if_neg c3] at h
          exact absurd (show (0 : Int32) = 1 from h) (by decide)
      · exact isR_all c e j (by omega)
theorem M_kindsL {nu fg kd : Nat → Int32} {c f t : Nat} (hc : c ≤ 6) (hf : f ≤ 9) (ht8 : t < 8) (ef : fg t = nI f) (h2 : ∀ j, j < c → nu j = 0 ∨ nu j = 1 ∨ nu j = 2) {β : Type} {g : Int32 → Option β} : (wh (fun (s : (Int32) × (Int32)) => F_M_whatKind_L113 (nI c) fg kd nu (nI t) 0 s.1 s.2) 400 ((0 : Int32), (0 : Int32))).bind g = g (dbs (fun d => decide (¬ isR (iso nu (nI d) (nI f)) c = 0)) 6) := by
  refine wh_forB (fun i => (dbs (fun d => decide (¬ isR (iso nu (nI d) (nI f)) c = 0)) i, nI i)) 6 _ 400 (by omega) (fun i hi => ?_) ?_
  · show F_M_whatKind_L113 (nI c) fg kd nu (nI t) 0 _ (nI i) = some (Sum.inl (dbs _ (i + 1), nI (i + 1)))
    unfold F_M_whatKind_L113 F_M_whatKind_J126_17 F_M_whatKind_J147_20 F_M_whatKind_J163_22
    rw [if_pos rfl, if_neg (nleC 6 6 hi (by omega) rfl), if_pos rfl, if_neg (by decide), ck_nI _ ht8 (by omega), nI_clamp (show t < 2 ^ 31 by omega), ef, M_isSo hc hi hf h2, Option.bind_some, nI_1]
    by_cases e : isR (iso nu (nI i) (nI f)) c = 0
    · rw [if_pos e, dbs_n (decide_eq_false (fun h => h e)), Int32.or_zero]
    · rw [if_neg e, dbs_y (decide_eq_true e)]
  · show F_M_whatKind_L113 (nI c) fg kd nu (nI t) 0 _ (nI 6) = _
    unfold F_M_whatKind_L113 F_M_whatKind_J126_17
    rw [if_pos rfl, if_pos (by decide +kernel)]
theorem M_figsL {nu fg kd : Nat → Int32} {c k t : Nat} (hc : c ≤ 6) (hk : k < 6) (ht8 : t < 8) (ek : kd t = nI k) (h2 : ∀ j, j < c → nu j = 0 ∨ nu j = 1 ∨ nu j = 2) {β : Type} {g : Int32 → Option β} : (wh (fun (s : (Int32) × (Int32)) => F_M_whatKind_L113 (nI c) fg kd nu (nI t) 1 s.1 s.2) 400 ((0 : Int32), (0 : Int32))).bind g = g (dbs (fun d => decide (¬ isR (iso nu (nI k) (nI d)) c = 0)) 10) := by
  refine wh_forB (fun i => (dbs (fun d => decide (¬ isR (iso nu (nI k) (nI d)) c = 0)) i, nI i)) 10 _ 400 (by omega) (fun i hi => ?_) ?_
  · show F_M_whatKind_L113 (nI c) fg kd nu (nI t) 1 _ (nI i) = some (Sum.inl (dbs _ (i + 1), nI (i + 1)))
    unfold F_M_whatKind_L113 F_M_whatKind_J126_17 F_M_whatKind_J147_20 F_M_whatKind_J163_22
    rw [if_neg (show ¬ (1 : Int32) = 0 by decide), if_neg (nleC 10 10 hi (by omega) rfl), if_neg (show ¬ (1 : Int32) = 0 by decide), if_pos rfl, ck_nI _ ht8 (by omega), nI_clamp (show t < 2 ^ 31 by omega), ek, M_isSo hc hk (show i ≤ 9 by omega) h2, Option.bind_some, nI_1]
    by_cases e : isR (iso nu (nI k) (nI i)) c = 0
    · rw [if_pos e, dbs_n (decide_eq_false (fun h => h e)), Int32.or_zero]
    · rw [if_neg e, dbs_y (decide_eq_true e)]
  · show F_M_whatKind_L113 (nI c) fg kd nu (nI t) 1 _ (nI 10) = _
    unfold F_M_whatKind_L113 F_M_whatKind_J126_17
    rw [if_neg (show ¬ (1 : Int32) = 0 by decide), if_pos (by decide +kernel)]
theorem is012 {nu : Nat → Int32} {c : Nat} (h : isR (two nu) c = 1) (hb : ∀ j, j < c → ∃ x, x ≤ 99 ∧ nu j = nI x) : ∀ j, j < c → nu j = 0 ∨ nu j = 1 ∨ nu j = 2 := by
  intro j hj
  obtain ⟨x, h1, h2⟩ := hb j hj
  have h3 := isR_all c h j hj
  rw [h2, i32_le, nI_toInt (by omega), show (2 : Int32).toInt = 2 by decide +kernel] at h3
  rcases (show x = 0 ∨ x = 1 ∨ x = 2 by omega) with rfl | rfl | rfl
  · exact Or.inl h2
  · exact Or.inr (Or.inl h2)
  · exact Or.inr (Or.inr h2)
