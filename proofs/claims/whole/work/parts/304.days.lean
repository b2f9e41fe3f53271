-- days collected as bits
def dbs (p : Nat → Bool) : Nat → Int32
  | 0 => 0
  | d + 1 => if p d then dbs p d ||| ((1 : Int32) <<< ((nI d) &&& 31)) else dbs p d
theorem dbs_y {p : Nat → Bool} {d : Nat} (h : p d = true) : dbs p (d + 1) = dbs p d ||| ((1 : Int32) <<< ((nI d) &&& 31)) := by rw [dbs, h]; rfl
theorem dbs_n {p : Nat → Bool} {d : Nat} (h : p d = false) : dbs p (d + 1) = dbs p d := by rw [dbs, h]; rfl
theorem mn1 {i m : Nat} (h : i < m) : min (i + 1) m = i + 1 := by omega
theorem mn0 {i m : Nat} (h : i < m) : min i m = i := by omega
theorem mn2 {i m : Nat} (h : m ≤ i) : min (i + 1) m = min i m := by omega
theorem hasD_n2 {d m : Nat} (h : m ≤ d) (hd : d < 8) : F_Sta_hasDay (nI m) (nI d) = some 0 := hasD_n (Or.inr ⟨nI_ge0 (by omega), nI_le h (by omega)⟩)
theorem C_none {go hm : Nat → Int32} {m : Nat} (hm8 : m ≤ 8) (x : Int32) : F_Dia_withNoneOf (nI m) go hm x = some (dbs (fun d => decide ((CB go (hm d) &&& x) = 0)) m) := by
  unfold F_Dia_withNoneOf
  refine (wh_forB (fun i => (dbs (fun d => decide ((CB go (hm d) &&& x) = 0)) (min i m), nI i)) 8 (dbs (fun d => decide ((CB go (hm d) &&& x) = 0)) m) 400 (by omega) (fun i hi => ?_) ?_).trans rfl
  · show F_Dia_withNoneOf_L4 (nI m) go hm x (dbs _ (min i m)) (nI i) = some (Sum.inl (dbs _ (min (i + 1) m), nI (i + 1)))
    unfold F_Dia_withNoneOf_L4
    rw [if_neg (nleC 8 8 hi (by omega) rfl), nI_1]
    by_cases h : i < m
    · rw [hasD_y h hm8, C_ham hm8 h, mn0 h, mn1 h]
      show (F_Sta_couldBe go (hm i)).bind _ = _
      rw [C_could]
      show (if (CB go (hm i) &&& x) = 0 then _ else _) = _
      by_cases c : (CB go (hm i) &&& x) = 0
      · rw [if_pos c, dbs_y (decide_eq_true c)]
      · rw [if_neg c, dbs_n (decide_eq_false c)]
    · rw [hasD_n2 (by omega) hi, mn2 (by omega)]
      rfl
  · show F_Dia_withNoneOf_L4 (nI m) go hm x _ (nI 8) = _
    unfold F_Dia_withNoneOf_L4
    rw [if_pos (by decide +kernel), show min 8 m = m by omega]
theorem P_wanted {hk : Int32} {th : Int32} {dy : Int32} {dn : Int32} {wt : Nat → Int32} {kd : Nat → Int32} {fg : Nat → Int32} {go : Nat → Int32} {hm : Nat → Int32} {wi : Nat → Int32} {lf : Nat → Int32} {kth : Int32} {kdy : Int32} {kdn : Int32} {kwt : Nat → Int32} {kkd : Nat → Int32} {kfg : Nat → Int32} {kgo : Nat → Int32} {khm : Nat → Int32} {kwi : Nat → Int32} {klf : Nat → Int32} {sc : Int32} {sg : Nat → Nat} {sp : Nat → Int32} {sl : Nat → Int32} {sb : Nat → Int32} {sf : Nat → Int32} {sd : Nat → Int32} {lc : Int32} {lt : Nat → Int32} {nc : Int32} {nu : Nat → Int32} {rf : Nat → Int32} {im : Nat → Int32} {tu : Nat → Int32} (hI : Inv th dy dn wt kd fg go hm wi lf hk kth kdy kdn kwt kkd kfg kgo khm kwi klf im sc sg sp sl sb sf sd tu lt lc nu nc) (x1 : Int32) : ∃ (r : Int32) (rf' : Nat → Int32) (m_thrown' : Int32), F_H_wanted dy wi go hm rf x1 = some (r, rf') ∧ F_M_wanted dy th fg hm kd rf wi x1 = some (r, m_thrown', rf') := by
  obtain ⟨⟨n, m, q, hn, hm8, hq, rfl, rfl, rfl, hw, ht, hd, hf⟩, -⟩ := hI
  rcases inR x1 4 (by omega) with ⟨f, hf4, rfl⟩ | h
  · refine ⟨dbs (fun d => decide ((CB go (hm d) &&& wi f) = 0)) m, rf, 0, ?_, ?_⟩
    · unfold F_H_wanted
      rw [isF_y hf4]
      show ck (nI f) 4 _ = _
      rw [ck_nI _ hf4 (by omega), nI_clamp (by omega), C_none hm8]
      rfl
    · unfold F_M_wanted
      rw [M_in0_y 4 3 hf4 (by omega) (by decide +kernel)]
      refine (wh_forB (fun i => (dbs (fun d => decide ((CB go (hm d) &&& wi f) = 0)) i, nI i)) m (dbs (fun d => decide ((CB go (hm d) &&& wi f) = 0)) m) 400 (by omega) (fun i hi => ?_) ?_).trans rfl
      · show F_M_wanted_L27 (nI m) (nI n) fg hm kd wi (nI f) _ (nI i) = some (Sum.inl (dbs _ (i + 1), nI (i + 1)))
        unfold F_M_wanted_L27
        obtain ⟨hh, g1, g2⟩ := hd i hi
        rw [if_neg (nI_leN hi (by omega)), ck_nI _ (show i < 8 by omega) (by omega), nI_clamp (show i < 2 ^ 31 by omega), g2, M_CB hn ht g1, ← g2, nI_1]
        show ck (nI f) 4 _ = _
        rw [ck_nI _ hf4 (by omega), nI_clamp (by omega)]
        by_cases c : (CB go (hm i) &&& wi f) = 0
        · rw [if_pos c, dbs_y (decide_eq_true c)]
        · rw [if_neg c, dbs_n (decide_eq_false c), Int32.or_zero]
      · show F_M_wanted_L27 (nI m) (nI n) fg hm kd wi (nI f) _ (nI m) = _
        unfold F_M_wanted_L27
        rw [if_pos (nI_le (Nat.le_refl m) (by omega))]
  · refine ⟨-1, rfx rf 1, 0, ?_, ?_⟩
    · unfold F_H_wanted; rw [isF_n h]; rfl
    · unfold F_M_wanted; rw [M_in0_n 4 3 h (by omega) (by omega) (by decide +kernel)]; rfl
-- all that is left, the neediest
theorem C_left (lf : Nat → Int32) {f : Nat} (h : f < 4) : F_Fld_leftOf lf (nI f) = some (lf f) := by
  unfold F_Fld_leftOf
  rw [isF_y h]
  show ck (nI f) 4 _ = _
  rw [ck_nI _ h (by omega), nI_clamp (by omega)]
def aLf (lf : Nat → Int32) : Int32 := lf 0 + lf 1 + lf 2 + lf 3
theorem M_all (lf : Nat → Int32) : F_M_allLeft lf = some (aLf lf) := rfl
theorem C_among (lf : Nat → Int32) (x : Int32) : F_Fld_leftAmong lf x = some (wsm lf x 4) := by
  unfold F_Fld_leftAmong
  refine (wh_forB (fun i => (wsm lf x i, nI i)) 4 (wsm lf x 4) 400 (by omega) (fun i hi => ?_) ?_).trans rfl
  · show F_Fld_leftAmong_L4 lf x (wsm lf x i) (nI i) = some (Sum.inl (wsm lf x (i + 1), nI (i + 1)))
    unfold F_Fld_leftAmong_L4
    rw [if_neg (nleC 4 4 hi (by omega) rfl), holds_bt x (by omega), nI_1]
    show (if (if bt x i then (1 : Int32) else 0) = 0 then _ else ck (nI i) 4 _) = _
    rw [ck_nI _ hi (by omega), nI_clamp (by omega)]
    cases hb : bt x i
    · rw [wsm_n hb]; rfl
    · rw [wsm_y hb]; rfl
  · show F_Fld_leftAmong_L4 lf x _ (nI 4) = _
    unfold F_Fld_leftAmong_L4
    rw [if_pos (by decide +kernel)]
theorem C_all (lf : Nat → Int32) : F_Fld_allLeft lf = some (aLf lf) := by
  unfold F_Fld_allLeft
  rw [C_among]
  have e : wsm lf 15 4 = aLf lf := by
    rw [wsm_y (by decide +kernel), wsm_y (by decide +kernel), wsm_y (by decide +kernel), wsm_y (by decide +kernel)]
    show 0 + lf 0 + lf 1 + lf 2 + lf 3 = _
    rw [Int32.zero_add]
    rfl
  rw [e]
  rfl
def ndy (lf : Nat → Int32) : Nat → Nat
  | 0 => 0
  | f + 1 => if lf (f + 1) ≤ lf (ndy lf f) then ndy lf f else f + 1
theorem ndy_lt (lf : Nat → Int32) : ∀ f, ndy lf f ≤ f
  | 0 => Nat.le_refl 0
  | f + 1 => by
    rw [ndy]
    split
    · exact Nat.le_succ_of_le (ndy_lt lf f)
    · exact Nat.le_refl _
theorem C_ndy (lf : Nat → Int32) : F_Fld_neediest lf = some (nI (ndy lf 3)) := by
  unfold F_Fld_neediest
  refine (wh_forB (fun i => (nI (ndy lf i), nI (i + 1))) 3 (nI (ndy lf 3)) 400 (by omega) (fun i hi => ?_) ?_).trans rfl
  · show F_Fld_neediest_L4 lf (nI (ndy lf i)) (nI (i + 1)) = some (Sum.inl (nI (ndy lf (i + 1)), nI (i + 1 + 1)))
    have h1 := ndy_lt lf i
    unfold F_Fld_neediest_L4
    rw [if_neg (nleC 4 4 (show i + 1 < 4 by omega) (by omega) rfl), ck_nI _ (show i + 1 < 4 by omega) (by omega), C_left lf (show ndy lf i < 4 by omega), nI_clamp (show i + 1 < 2 ^ 31 by omega), nI_1]
    show (if lf (i + 1) ≤ lf (ndy lf i) then _ else _) = _
    by_cases c : lf (i + 1) ≤ lf (ndy lf i)
    · rw [if_pos c, ndy, if_pos c]
    · rw [if_neg c, ndy, if_neg c]
  · show F_Fld_neediest_L4 lf _ (nI 4) = _
    unfold F_Fld_neediest_L4
    rw [if_pos (by decide +kernel)]
theorem P_need {hk : Int32} {th : Int32} {dy : Int32} {dn : Int32} {wt : Nat → Int32} {kd : Nat → Int32} {fg : Nat → Int32} {go : Nat → Int32} {hm : Nat → Int32} {wi : Nat → Int32} {lf : Nat → Int32} {kth : Int32} {kdy : Int32} {kdn : Int32} {kwt : Nat → Int32} {kkd : Nat → Int32} {kfg : Nat → Int32} {kgo : Nat → Int32} {khm : Nat → Int32} {kwi : Nat → Int32} {klf : Nat → Int32} {sc : Int32} {sg : Nat → Nat} {sp : Nat → Int32} {sl : Nat → Int32} {sb : Nat → Int32} {sf : Nat → Int32} {sd : Nat → Int32} {lc : Int32} {lt : Nat → Int32} {nc : Int32} {nu : Nat → Int32} {rf : Nat → Int32} {im : Nat → Int32} {tu : Nat → Int32} (hI : Inv th dy dn wt kd fg go hm wi lf hk kth kdy kdn kwt kkd kfg kgo khm kwi klf im sc sg sp sl sb sf sd tu lt lc nu nc) (x1 : Int32) : ∃ (r : Int32) (rf' : Nat → Int32) (m_thrown' : Int32), F_H_need lf rf x1 = some (r, rf') ∧ F_M_need lf rf x1 = some (r, m_thrown', rf') := by
  have hn3 := ndy_lt lf 3
  have eM : ∀ {f : Int32 → Option (Int32 × Int32 × (Nat → Int32))}, (wh (fun (s : (Int32) × (Int32)) => F_M_need_L28 lf s.1 s.2) 400 ((0 : Int32), (1 : Int32))).bind f = f (nI (ndy lf 3)) := by
    intro f
    refine wh_forB (fun i => (nI (ndy lf i), nI (i + 1))) 3 (nI (ndy lf 3)) 400 (by omega) (fun i hi => ?_) ?_
    · show F_M_need_L28 lf (nI (ndy lf i)) (nI (i + 1)) = some (Sum.inl (nI (ndy lf (i + 1)), nI (i + 1 + 1)))
      have h1 := ndy_lt lf i
      unfold F_M_need_L28
      rw [if_neg (nleC 4 4 (show i + 1 < 4 by omega) (by omega) rfl), ck_nI _ (show i + 1 < 4 by omega) (by omega), ck_nI _ (show ndy lf i < 4 by omega) (by omega), nI_clamp (show i + 1 < 2 ^ 31 by omega), nI_clamp (show ndy lf i < 2 ^ 31 by omega), nI_1]
      by_cases c : lf (i + 1) ≤ lf (ndy lf i)
      · rw [if_pos c, ndy, if_pos c]
      · rw [if_neg c, ndy, if_neg c]
    · show F_M_need_L28 lf _ (nI 4) = _
      unfold F_M_need_L28
      rw [if_pos (by decide +kernel)]
  rcases inR x1 3 (by omega) with ⟨w, hw, rfl⟩ | h
  · have c0 := M_in0_y 3 2 hw (by omega) (by decide +kernel)
    rcases (show w = 0 ∨ w = 1 ∨ w = 2 by omega) with rfl | rfl | rfl
    · refine ⟨nI (ndy lf 3), rf, 0, ?_, ?_⟩
      · unfold F_H_need; rw [C_ndy]; rfl
      · unfold F_M_need; rw [c0]; exact eM
    · refine ⟨lf (ndy lf 3), rf, 0, ?_, ?_⟩
      · unfold F_H_need
        rw [C_ndy]
        show (F_Fld_leftOf lf (nI (ndy lf 3))).bind _ = _
        rw [C_left lf (by omega)]
        rfl
      · unfold F_M_need
        rw [c0]
        refine eM.trans ?_
        show ck (nI (ndy lf 3)) 4 _ = _
        rw [ck_nI _ (by omega) (by omega), nI_clamp (by omega)]
    · refine ⟨aLf lf, rf, 0, ?_, ?_⟩
      · unfold F_H_need
        rw [C_ndy]
        show (F_Fld_allLeft lf).bind _ = _
        rw [C_all]
        rfl
      · unfold F_M_need; rw [c0]; exact eM.trans rfl
  · refine ⟨-2, rfx rf 2, 0, ?_, ?_⟩
    · unfold F_H_need
      rw [C_ndy]
      show (if x1 = 0 then _ else if x1 = 1 then _ else if x1 = 2 then _ else _) = _
      rw [if_neg (outC h 0 0 (by omega) (by omega) rfl), if_neg (outC h 1 1 (by omega) (by omega) rfl), if_neg (outC h 2 2 (by omega) (by omega) rfl)]
      rfl
    · unfold F_M_need; rw [M_in0_n 3 2 h (by omega) (by omega) (by decide +kernel)]; rfl
