-- the first of the greatest, the first of the least
def fmx (k : Nat → Nat → Bool) : Nat → Option Nat
  | 0 => none
  | i + 1 => match fmx k i with
    | none => some i
    | some b => if k b i = true then some b else some i
theorem fmx_0 (k : Nat → Nat → Bool) : fmx k 0 = none := rfl
theorem fmx_1 {k : Nat → Nat → Bool} {i : Nat} (h : fmx k i = none) : fmx k (i + 1) = some i := by rw [fmx, h]
theorem fmx_y {k : Nat → Nat → Bool} {i b : Nat} (h : fmx k i = some b) (c : k b i = true) : fmx k (i + 1) = some b := by
  rw [fmx, h]
  exact if_pos c
theorem fmx_n {k : Nat → Nat → Bool} {i b : Nat} (h : fmx k i = some b) (c : ¬ k b i = true) : fmx k (i + 1) = some i := by
  rw [fmx, h]
  exact if_neg c
theorem fmx_lt (k : Nat → Nat → Bool) : ∀ i b, fmx k i = some b → b < i
  | 0, b, h => by cases h
  | i + 1, b, h => by
    cases e : fmx k i with
    | none => rw [fmx_1 e] at h; cases h; omega
    | some c =>
      have := fmx_lt k i c e
      by_cases q : k c i = true
      · rw [fmx_y e q] at h; cases h; omega
      · rw [fmx_n e q] at h; cases h; omega
def ixO (s : Option Nat) : Int32 := match s with | none => -9 | some b => nI b
def vlO (z : Int32) (v : Nat → Int32) (s : Option Nat) : Int32 := match s with | none => z | some b => v b
def kmx (v : Nat → Nat) (b i : Nat) : Bool := decide (v i ≤ v b)
theorem neg1_lt {b : Nat} (hb : b < 2 ^ 31) : ¬ nI b ≤ -1 := by
  rw [i32_le, nI_toInt hb, show (-1 : Int32).toInt = -1 by decide +kernel]
  omega
def tms (hm : Nat → Int32) (t : Nat) : Nat → Nat
  | 0 => 0
  | d + 1 => tms hm t d + (if bt (hm d) t = true then 1 else 0)
theorem tms_le (hm : Nat → Int32) (t : Nat) : ∀ d, tms hm t d ≤ d
  | 0 => Nat.le_refl 0
  | d + 1 => by
    have := tms_le hm t d
    rw [tms]
    split <;> omega
theorem C_times {hm : Nat → Int32} {m t : Nat} (hm8 : m ≤ 8) (ht : t < 8) : F_Dia_timesPacked (nI m) hm (nI t) = some (nI (tms hm t m)) := by
  unfold F_Dia_timesPacked
  refine (wh_forB (fun i => (nI (tms hm t (min i m)), nI i)) 8 (nI (tms hm t m)) 400 (by omega) (fun i hi => ?_) ?_).trans rfl
  · show F_Dia_timesPacked_L4 (nI m) hm (nI t) (nI (tms hm t (min i m))) (nI i) = some (Sum.inl (nI (tms hm t (min (i + 1) m)), nI (i + 1)))
    unfold F_Dia_timesPacked_L4
    rw [if_neg (nleC 8 8 hi (by omega) rfl)]
    by_cases c : i < m
    · rw [C_ham hm8 c, Option.bind_some, holds_bt _ (show t < 31 by omega), Option.bind_some, nI_1, nI_1, Nat.min_eq_left (by omega), Nat.min_eq_left (by omega), tms]
      cases hb : bt (hm i) t
      · rw [if_pos (by decide)]; rfl
      · rw [if_neg (by decide)]; rfl
    · rw [C_ham_n (by omega) hi, Option.bind_some, holds_bt _ (show t < 31 by omega), Option.bind_some, bt00 t ht, if_pos (by decide), nI_1, Nat.min_eq_right (by omega), Nat.min_eq_right (by omega)]
  · show F_Dia_timesPacked_L4 (nI m) hm (nI t) (nI (tms hm t (min 8 m))) (nI 8) = _
    unfold F_Dia_timesPacked_L4
    rw [if_pos (by decide), Nat.min_eq_right hm8]
theorem C_times9 {hm : Nat → Int32} {m : Nat} (hm8 : m ≤ 8) : F_Dia_timesPacked (nI m) hm (-9) = some 0 := by
  unfold F_Dia_timesPacked
  refine (wh_forB (fun i => ((0 : Int32), nI i)) 8 (0 : Int32) 400 (by omega) (fun i hi => ?_) ?_).trans rfl
  · show F_Dia_timesPacked_L4 (nI m) hm (-9) 0 (nI i) = some (Sum.inl (0, nI (i + 1)))
    unfold F_Dia_timesPacked_L4
    have e : ∀ x, F_H_holds x (-9) = some 0 := fun x => rfl
    rw [if_neg (nleC 8 8 hi (by omega) rfl)]
    by_cases c : i < m
    · rw [C_ham hm8 c, Option.bind_some, e, Option.bind_some, if_pos rfl, nI_1]
    · rw [C_ham_n (by omega) hi, Option.bind_some, e, Option.bind_some, if_pos rfl, nI_1]
  · rfl
theorem C_most {hm : Nat → Int32} {n m : Nat} (hn : n ≤ 8) (hm8 : m ≤ 8) : F_Dia_mostPacked (nI m) (nI n) hm = some (ixO (fmx (kmx (fun t => tms hm t m)) n)) := by
  unfold F_Dia_mostPacked
  refine (wh_forB (fun i => (ixO (fmx (kmx (fun t => tms hm t m)) i), vlO 0 (fun t => nI (tms hm t m)) (fmx (kmx (fun t => tms hm t m)) i), nI i)) n (ixO (fmx (kmx (fun t => tms hm t m)) n)) 400 (by omega) (fun i hi => ?_) ?_).trans rfl
  · show F_Dia_mostPacked_L7 (nI m) (nI n) hm (ixO (fmx (kmx (fun t => tms hm t m)) i)) (vlO 0 (fun t => nI (tms hm t m)) (fmx (kmx (fun t => tms hm t m)) i)) (nI i) = some (Sum.inl (ixO (fmx (kmx (fun t => tms hm t m)) (i + 1)), vlO 0 (fun t => nI (tms hm t m)) (fmx (kmx (fun t => tms hm t m)) (i + 1)), nI (i + 1)))
    unfold F_Dia_mostPacked_L7
    rw [if_neg (nI_leN hi (by omega)), C_times hm8 (show i < 8 by omega), Option.bind_some, nI_1]
    cases e : fmx (kmx (fun t => tms hm t m)) i with
    | none =>
      rw [fmx_1 e]
      exact if_pos rfl
    | some b =>
      have hb := fmx_lt _ i b e
      have h1 := tms_le hm i m
      have h2 := tms_le hm b m
      show (if nI b = -9 then _ else _) = _
      rw [if_neg (nI_ne9 (show b < 2 ^ 31 by omega))]
      show (if nI (tms hm i m) ≤ nI (tms hm b m) then _ else _) = _
      by_cases c : tms hm i m ≤ tms hm b m
      · rw [if_pos ((nI_leI (by omega) (by omega)).mpr c), fmx_y e (decide_eq_true c)]
      · rw [if_neg (fun h => c ((nI_leI (by omega) (by omega)).mp h)), fmx_n e (fun h => c (of_decide_eq_true h))]
        rfl
  · show F_Dia_mostPacked_L7 (nI m) (nI n) hm _ _ (nI n) = _
    unfold F_Dia_mostPacked_L7
    rw [if_pos (by rw [i32_le]; omega)]
theorem M_times {hm : Nat → Int32} {m t : Nat} (hm8 : m ≤ 8) : wh (fun (s : (Int32) × (Int32)) => F_M_often_L45 (nI m) hm (nI t) s.1 s.2) 400 ((0 : Int32), (0 : Int32)) = some (nI (tms hm t m)) := by
  refine wh_for (fun i => (nI (tms hm t i), nI i)) m (nI (tms hm t m)) (fun i hi => ?_) ?_ 400 (by omega)
  · show F_M_often_L45 (nI m) hm (nI t) (nI (tms hm t i)) (nI i) = some (Sum.inl (nI (tms hm t (i + 1)), nI (i + 1)))
    unfold F_M_often_L45
    rw [if_neg (nI_leN hi (by omega)), ck_nI _ (show i < 8 by omega) (by omega), nI_clamp (show i < 2 ^ 31 by omega), hasBit_bt, Option.bind_some, nI_1, nI_1, tms]
    cases hb : bt (hm i) t
    · rw [if_pos (by decide), Int32.add_zero]; rfl
    · rw [if_neg (by decide)]; rfl
  · show F_M_often_L45 (nI m) hm (nI t) (nI (tms hm t m)) (nI m) = _
    unfold F_M_often_L45
    rw [if_pos (by rw [i32_le]; omega)]
theorem M_most {hm : Nat → Int32} {n m : Nat} (hn : n ≤ 8) (hm8 : m ≤ 8) : wh (fun (s : (Int32) × (Int32) × (Int32)) => F_M_often_L30 (nI m) (nI n) hm s.1 s.2.1 s.2.2) 400 (((-9) : Int32), ((-1) : Int32), (0 : Int32)) = some (ixO (fmx (kmx (fun t => tms hm t m)) n), vlO (-1) (fun t => nI (tms hm t m)) (fmx (kmx (fun t => tms hm t m)) n)) := by
  refine wh_for (fun i => (ixO (fmx (kmx (fun t => tms hm t m)) i), vlO (-1) (fun t => nI (tms hm t m)) (fmx (kmx (fun t => tms hm t m)) i), nI i)) n _ (fun i hi => ?_) ?_ 400 (by omega)
  · show F_M_often_L30 (nI m) (nI n) hm (ixO (fmx (kmx (fun t => tms hm t m)) i)) (vlO (-1) (fun t => nI (tms hm t m)) (fmx (kmx (fun t => tms hm t m)) i)) (nI i) = some (Sum.inl (ixO (fmx (kmx (fun t => tms hm t m)) (i + 1)), vlO (-1) (fun t => nI (tms hm t m)) (fmx (kmx (fun t => tms hm t m)) (i + 1)), nI (i + 1)))
    unfold F_M_often_L30 F_M_often_J97_11
    rw [if_neg (nI_leN hi (by omega)), M_times hm8, Option.bind_some, nI_1]
    have h1 := tms_le hm i m
    cases e : fmx (kmx (fun t => tms hm t m)) i with
    | none =>
      rw [fmx_1 e]
      show (if nI (tms hm i m) ≤ -1 then _ else _) = _
      rw [if_neg (neg1_lt (by omega))]
      show (if nI (tms hm i m) ≤ -1 then _ else _) = _
      rw [if_neg (neg1_lt (by omega))]
      rfl
    | some b =>
      have hb := fmx_lt _ i b e
      have h2 := tms_le hm b m
      by_cases c : tms hm i m ≤ tms hm b m
      · have c2 : nI (tms hm i m) ≤ nI (tms hm b m) := (nI_leI (by omega) (by omega)).mpr c
        rw [fmx_y e (decide_eq_true c)]
        exact (if_pos c2).trans (if_pos c2)
      · have c2 : ¬ nI (tms hm i m) ≤ nI (tms hm b m) := fun h => c ((nI_leI (by omega) (by omega)).mp h)
        rw [fmx_n e (fun h => c (of_decide_eq_true h))]
        exact (if_neg c2).trans (if_neg c2)
  · show F_M_often_L30 (nI m) (nI n) hm _ _ (nI n) = _
    unfold F_M_often_L30
    rw [if_pos (by rw [i32_le]; omega)]
theorem P_often {hk : Int32} {th : Int32} {dy : Int32} {dn : Int32} {wt : Nat → Int32} {kd : Nat → Int32} {fg : Nat → Int32} {go : Nat → Int32} {hm : Nat → Int32} {wi : Nat → Int32} {lf : Nat → Int32} {kth : Int32} {kdy : Int32} {kdn : Int32} {kwt : Nat → Int32} {kkd : Nat → Int32} {kfg : Nat → Int32} {kgo : Nat → Int32} {khm : Nat → Int32} {kwi : Nat → Int32} {klf : Nat → Int32} {sc : Int32} {sg : Nat → Nat} {sp : Nat → Int32} {sl : Nat → Int32} {sb : Nat → Int32} {sf : Nat → Int32} {sd : Nat → Int32} {lc : Int32} {lt : Nat → Int32} {nc : Int32} {nu : Nat → Int32} {rf : Nat → Int32} {im : Nat → Int32} {tu : Nat → Int32} (hI : Inv th dy dn wt kd fg go hm wi lf hk kth kdy kdn kwt kkd kfg kgo khm kwi klf im sc sg sp sl sb sf sd tu lt lc nu nc) (x1 : Int32) : ∃ (r : Int32) (rf' : Nat → Int32) (m_thrown' : Int32), F_H_often dy th hm rf x1 = some (r, rf') ∧ F_M_often dy th hm rf x1 = some (r, m_thrown', rf') := by
  obtain ⟨⟨n, m, q, hn, hm8, hq, rfl, rfl, rfl, hw, ht, hd, hf⟩, -⟩ := hI
  rcases inR x1 2 (by omega) with ⟨v, hv2, rfl⟩ | h
  · have eJ : F_H_often (nI m) (nI n) hm rf (nI v) = F_H_often_J16_2 (nI m) (nI n) hm rf (nI v) := by
      unfold F_H_often
      rcases (show v = 0 ∨ v = 1 by omega) with rfl | rfl <;> rfl
    rw [eJ]
    unfold F_H_often_J16_2 F_M_often
    rw [C_most hn hm8, Option.bind_some, M_in0_y 2 1 hv2 (by omega) (by decide +kernel), Option.bind_some, if_neg (show ¬ (1 : Int32) = 0 by decide), M_most hn hm8, Option.bind_some]
    rcases (show v = 0 ∨ v = 1 by omega) with rfl | rfl
    · exact ⟨_, rf, 0, rfl, rfl⟩
    · rw [if_neg (show ¬ nI 1 = 0 by decide), if_neg (show ¬ nI 1 = 0 by decide)]
      cases e : fmx (kmx (fun t => tms hm t m)) n with
      | none =>
        refine ⟨0, rf, 0, ?_, rfl⟩
        show (F_Dia_timesPacked (nI m) hm (-9)).bind _ = _
        rw [C_times9 hm8]
        rfl
      | some b =>
        have hb := fmx_lt _ n b e
        have h1 := tms_le hm b m
        refine ⟨nI (tms hm b m), rf, 0, ?_, ?_⟩
        · show (F_Dia_timesPacked (nI m) hm (nI b)).bind _ = _
          rw [C_times hm8 (show b < 8 by omega)]
          rfl
        · show (if 0 ≤ nI (tms hm b m) then _ else _) = _
          rw [if_pos (show (0 : Int32) ≤ nI (tms hm b m) by rw [i32_le, nI_toInt (by omega), Int32.toInt_zero]; omega)]
          rfl
  · refine ⟨-2, rfx rf 2, 0, ?_, ?_⟩
    · unfold F_H_often
      rw [if_neg (outC h 0 0 (by omega) (by omega) rfl), if_neg (outC h 1 1 (by omega) (by omega) rfl)]
      rfl
    · unfold F_M_often
      rw [M_in0_n 2 1 h (by omega) (by omega) (by decide +kernel)]
      rfl
