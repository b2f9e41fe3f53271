-- the first day with a rope
theorem fst1_none {α : Type} (o : Nat → Option α) : ∀ k i, (∀ j, i ≤ j → j < i + k → o j = none) → fst1 o i k = none
  | 0, _, _ => rfl
  | k + 1, i, h => by
    unfold fst1
    rw [h i (by omega) (by omega)]
    exact fst1_none o k (i + 1) (fun j h1 h2 => h j (by omega) (by omega))
theorem fst1_cut {α : Type} (o : Nat → Option α) (k : Nat) : ∀ n i, (∀ j, i + n ≤ j → j < i + n + k → o j = none) → fst1 o i (n + k) = fst1 o i n
  | 0, i, h => by
    rw [Nat.zero_add]
    exact fst1_none o k i (fun j h1 h2 => h j (by omega) (by omega))
  | n + 1, i, h => by
    rw [show n + 1 + k = (n + k) + 1 by omega]
    unfold fst1
    cases o i with
    | some r => rfl
    | none => exact fst1_cut o k n (i + 1) (fun j h1 h2 => h j (by omega) (by omega))
theorem fst1_to {α : Type} (o : Nat → Option α) {n k : Nat} (hn : n ≤ k) (h : ∀ j, n ≤ j → j < k → o j = none) : fst1 o 0 k = fst1 o 0 n := by
  have e := fst1_cut o (k - n) n 0 (fun j h1 h2 => h j (by omega) (by omega))
  rw [show n + (k - n) = k by omega] at e
  exact e
def rpt (kd : Nat → Int32) (h : Int32) (t : Nat) : Option Unit := if bt h t = true ∧ kd t = 3 then some () else none
def rpd (kd hm : Nat → Int32) (n d : Nat) : Option Int32 := (fst1 (rpt kd (hm d)) 0 n).map (fun _ => nI d)
theorem bt00 : ∀ t, t < 8 → bt 0 t = false := by
  have key : ∀ t : Fin 8, bt 0 t.val = false := by decide +kernel
  exact fun t h => key ⟨t, h⟩
theorem rpt_no {kd : Nat → Int32} {h : Int32} {t : Nat} (hb : bt h t = false) : rpt kd h t = none := by
  unfold rpt
  rw [if_neg]
  rw [hb]
  exact fun h => Bool.noConfusion h.1
theorem C_rope {kd hm : Nat → Int32} {n m : Nat} (hn : n ≤ 8) (hm8 : m ≤ 8) (hd : ∀ j, j < m → ∃ h, h < 2 ^ n ∧ hm j = nI h) : F_Dia_firstWithRope (nI m) hm kd = some ((fst1 (rpd kd hm n) 0 m).getD (-9)) := by
  unfold F_Dia_firstWithRope
  have inner : ∀ (h : Int32) {i : Nat}, i < 8 → F_Sta_hamperOf (nI m) hm (nI i) = some h → ∀ {β : Type} {f : Unit ⊕ Int32 → Option β}, (wh (fun (s : (Int32)) => F_Dia_firstWithRope_L10 (nI m) hm kd (nI i) s) 400 (0 : Int32)).bind f = f (((fst1 (rpt kd h) 0 8).map (fun _ => Sum.inr (nI i))).getD (Sum.inl ())) := by
    intro h i hi8 eh β f
    refine wh_findM (fun t => nI t) 8 (rpt kd h) (fun _ => Sum.inr (nI i)) (Sum.inl ()) 400 (by omega) (fun t ht8 => ?_) ?_
    · show F_Dia_firstWithRope_L10 (nI m) hm kd (nI i) (nI t) = _
      unfold F_Dia_firstWithRope_L10
      rw [if_neg (nleC 8 8 ht8 (by omega) rfl), eh, Option.bind_some, holds_bt h (show t < 31 by omega), Option.bind_some, nI_1]
      cases hb : bt h t
      · rw [rpt_no hb]; rfl
      · rw [if_neg (show ¬ (if true = true then (1 : Int32) else 0) = 0 by decide), ck_nI _ ht8 (by omega), nI_clamp (show t < 2 ^ 31 by omega), rpt]
        by_cases c : kd t = 3
        · rw [if_pos c, if_pos ⟨hb, c⟩]
        · rw [if_neg c, if_neg (fun h => c h.2)]
    · show F_Dia_firstWithRope_L10 (nI m) hm kd (nI i) (nI 8) = _
      unfold F_Dia_firstWithRope_L10
      rw [if_pos (by decide +kernel)]
  refine (wh_findM (fun i => nI i) 8 (fun i => if i < m then rpd kd hm n i else none) (fun r => Sum.inr r) (Sum.inl ()) 400 (by omega) (fun i hi => ?_) ?_).trans ?_
  · show F_Dia_firstWithRope_L2 (nI m) hm kd (nI i) = _
    unfold F_Dia_firstWithRope_L2
    rw [if_neg (nleC 8 8 hi (by omega) rfl), nI_1]
    by_cases c : i < m
    · rw [inner (hm i) hi (C_ham hm8 c), if_pos c]
      obtain ⟨h, h1, h2⟩ := hd i c
      rw [fst1_to (rpt kd (hm i)) hn (fun j j1 j2 => rpt_no (by rw [h2]; exact bt_out n hn h h1 j j2 j1)), rpd]
      cases fst1 (rpt kd (hm i)) 0 n <;> rfl
    · rw [inner 0 hi (C_ham_n (by omega) hi), if_neg c, fst1_none (rpt kd 0) 8 0 (fun j j1 j2 => rpt_no (bt00 j (by omega)))]
      rfl
  · show F_Dia_firstWithRope_L2 (nI m) hm kd (nI 8) = _
    unfold F_Dia_firstWithRope_L2
    rw [if_pos (by decide +kernel)]
  · rw [fst1_to _ hm8 (fun j j1 j2 => if_neg (by omega))]
    have e : ∀ k i, i + k ≤ m → fst1 (fun i => if i < m then rpd kd hm n i else none) i k = fst1 (rpd kd hm n) i k := by
      intro k
      induction k with
      | zero => intro i _; rfl
      | succ k ih =>
        intro i hik
        unfold fst1
        rw [if_pos (show i < m by omega), ih (i + 1) (by omega)]
    rw [e m 0 (by omega)]
    cases fst1 (rpd kd hm n) 0 m <;> rfl
theorem P_rope {hk : Int32} {th : Int32} {dy : Int32} {dn : Int32} {wt : Nat → Int32} {kd : Nat → Int32} {fg : Nat → Int32} {go : Nat → Int32} {hm : Nat → Int32} {wi : Nat → Int32} {lf : Nat → Int32} {kth : Int32} {kdy : Int32} {kdn : Int32} {kwt : Nat → Int32} {kkd : Nat → Int32} {kfg : Nat → Int32} {kgo : Nat → Int32} {khm : Nat → Int32} {kwi : Nat → Int32} {klf : Nat → Int32} {sc : Int32} {sg : Nat → Nat} {sp : Nat → Int32} {sl : Nat → Int32} {sb : Nat → Int32} {sf : Nat → Int32} {sd : Nat → Int32} {lc : Int32} {lt : Nat → Int32} {nc : Int32} {nu : Nat → Int32} {im : Nat → Int32} {tu : Nat → Int32} (hI : Inv th dy dn wt kd fg go hm wi lf hk kth kdy kdn kwt kkd kfg kgo khm kwi klf im sc sg sp sl sb sf sd tu lt lc nu nc) : ∃ (r : Int32) (m_thrown' : Int32), F_H_rope dy hm kd = some r ∧ F_M_rope dy th hm kd = some (r, m_thrown') := by
  obtain ⟨⟨n, m, q, hn, hm8, hq, rfl, rfl, rfl, hw, ht, hd, hf⟩, -⟩ := hI
  refine ⟨(fst1 (rpd kd hm n) 0 m).getD (-9), 0, ?_, ?_⟩
  · unfold F_H_rope
    rw [C_rope hn hm8 hd]
    rfl
  · unfold F_M_rope
    refine (wh_findM (fun i => nI i) m (rpd kd hm n) (fun r => Sum.inr (r, 0)) (Sum.inl ()) 400 (by omega) (fun i hi => ?_) ?_).trans ?_
    · show F_M_rope_L7 (nI m) (nI n) hm kd (nI i) = _
      unfold F_M_rope_L7
      rw [if_neg (nI_leN hi (by omega)), nI_1, rpd]
      refine (wh_findM (fun t => nI t) n (rpt kd (hm i)) (fun _ => Sum.inr (nI i, 0)) (Sum.inl ()) 400 (by omega) (fun t htn => ?_) ?_).trans ?_
      · show F_M_rope_L17 (nI n) hm kd (nI i) (nI t) = _
        unfold F_M_rope_L17
        rw [if_neg (nI_leN htn (by omega)), ck_nI _ (show i < 8 by omega) (by omega), nI_clamp (show i < 2 ^ 31 by omega), hasBit_bt, Option.bind_some, nI_1]
        cases hb : bt (hm i) t
        · rw [rpt_no hb]; rfl
        · rw [if_neg (show ¬ (if true = true then (1 : Int32) else 0) = 0 by decide), ck_nI _ (show t < 8 by omega) (by omega), nI_clamp (show t < 2 ^ 31 by omega), rpt]
          by_cases c : kd t = 3
          · rw [if_pos c, if_pos ⟨hb, c⟩]
          · rw [if_neg c, if_neg (fun h => c h.2)]
      · show F_M_rope_L17 (nI n) hm kd (nI i) (nI n) = _
        unfold F_M_rope_L17
        rw [if_pos (nI_le (Nat.le_refl n) (by omega))]
      · cases fst1 (rpt kd (hm i)) 0 n <;> rfl
    · show F_M_rope_L7 (nI m) (nI n) hm kd (nI m) = _
      unfold F_M_rope_L7
      rw [if_pos (nI_le (Nat.le_refl m) (by omega))]
    · cases fst1 (rpd kd hm n) 0 m <;> rfl
