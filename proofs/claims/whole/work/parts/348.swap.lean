-- swap
def lk1 (go wt : Nat → Int32) (x : Int32) : Nat := if LK go wt x = -9 then 0 else 1
theorem lk1_le (go wt : Nat → Int32) (x : Int32) : lk1 go wt x ≤ 1 := by
  unfold lk1
  split <;> omega
def swx (s t : Nat) : Int32 := nI (2 ^ s) ||| nI (2 ^ t)
def swc (go wt : Nat → Int32) (A B : Int32) (s t : Nat) : Bool := bt (A &&& (B ^^^ (-1))) s && (bt (B &&& (A ^^^ (-1))) t && !decide (lk1 go wt (A ^^^ swx s t) + lk1 go wt (B ^^^ swx s t) ≤ lk1 go wt A + lk1 go wt B))
def swo (go wt : Nat → Int32) (A B : Int32) (s t : Nat) : Option Int32 := if swc go wt A B s t = true then some ((10 : Int32) * nI s + nI t) else none
theorem swo_1 {go wt : Nat → Int32} {A B : Int32} {s t : Nat} (h : bt (A &&& (B ^^^ (-1))) s = false) : swo go wt A B s t = none := by
  unfold swo swc
  rw [h]
  exact if_neg (fun e => Bool.false_ne_true e)
theorem swo_2 {go wt : Nat → Int32} {A B : Int32} {s t : Nat} (h : bt (B &&& (A ^^^ (-1))) t = false) : swo go wt A B s t = none := by
  unfold swo swc
  rw [h, Bool.false_and, Bool.and_false]
  exact if_neg (fun e => Bool.false_ne_true e)
theorem swo_3 {go wt : Nat → Int32} {A B : Int32} {s t : Nat} (h : lk1 go wt (A ^^^ swx s t) + lk1 go wt (B ^^^ swx s t) ≤ lk1 go wt A + lk1 go wt B) : swo go wt A B s t = none := by
  unfold swo swc
  rw [decide_eq_true h, Bool.not_true, Bool.and_false, Bool.and_false]
  exact if_neg (fun e => Bool.false_ne_true e)
theorem swo_4 {go wt : Nat → Int32} {A B : Int32} {s t : Nat} (h1 : bt (A &&& (B ^^^ (-1))) s = true) (h2 : bt (B &&& (A ^^^ (-1))) t = true) (h : ¬ lk1 go wt (A ^^^ swx s t) + lk1 go wt (B ^^^ swx s t) ≤ lk1 go wt A + lk1 go wt B) : swo go wt A B s t = some ((10 : Int32) * nI s + nI t) := by
  unfold swo swc
  rw [decide_eq_false h, h1, h2]
  exact if_pos rfl
theorem C_two (go wt : Nat → Int32) (A B : Int32) : F_Dia_likelyOfTwo go wt A B = some (nI (lk1 go wt A + lk1 go wt B)) := by
  unfold F_Dia_likelyOfTwo F_Dia_likelyOfTwo_J15_3 lk1
  rw [C_by, Option.bind_some, C_by, Option.bind_some]
  by_cases c1 : LK go wt A = -9
  · rw [if_pos c1, if_pos c1]
    by_cases c2 : LK go wt B = -9
    · rw [if_pos c2, if_pos c2]; rfl
    · rw [if_neg c2, if_neg c2]; rfl
  · rw [if_neg c1, if_neg c1, Option.bind_some]
    by_cases c2 : LK go wt B = -9
    · rw [if_pos c2, if_pos c2]; rfl
    · rw [if_neg c2, if_neg c2]; rfl
def swd (go wt : Nat → Int32) (n : Nat) (A B : Int32) : Option Int32 := fst1 (fun s => fst1 (swo go wt A B s) 0 n) 0 n
theorem swd_ge {go wt : Nat → Int32} {n : Nat} (hn : n ≤ 8) {A B r : Int32} (h : swd go wt n A B = some r) : ¬ r < 0 := by
  obtain ⟨s, s1, s2, h2⟩ := fst1_in n 0 h
  obtain ⟨t, t1, t2, h3⟩ := fst1_in n 0 h2
  have key : ∀ s t : Fin 8, ¬ (10 : Int32) * nI s.val + nI t.val < 0 := by decide +kernel
  unfold swo at h3
  by_cases c : swc go wt A B s t = true
  · rw [if_pos c] at h3
    cases h3
    exact key ⟨s, by omega⟩ ⟨t, by omega⟩
  · rw [if_neg c] at h3
    cases h3
theorem C_swapOf {go wt : Nat → Int32} {n : Nat} (hn : n ≤ 8) (A B : Int32) : F_Dia_firstSwapOf (nI n) go wt A B = some ((swd go wt n A B).getD (-9)) := by
  unfold F_Dia_firstSwapOf
  rw [C_two, Option.bind_some]
  refine (wh_findM (fun s => nI s) n (fun s => fst1 (swo go wt A B s) 0 n) (fun r => Sum.inr r) (Sum.inl ()) 400 (by omega) (fun s hs => ?_) ?_).trans ?_
  · show F_Dia_firstSwapOf_L10 (nI n) go wt _ A B (nI s) = _
    unfold F_Dia_firstSwapOf_L10
    rw [if_neg (nI_leN hs (by omega)), nI_1]
    refine (wh_findM (fun t => nI t) n (swo go wt A B s) (fun r => Sum.inr r) (Sum.inl ()) 400 (by omega) (fun t ht => ?_) ?_).trans ?_
    · show F_Dia_firstSwapOf_L22 (nI n) go wt _ (nI s) A B (nI t) = _
      unfold F_Dia_firstSwapOf_L22 F_Dia_firstSwapOf_J61_12 F_Dia_firstSwapOf_J62_8
      rw [if_neg (nI_leN ht (by omega)), holds_bt _ (show s < 31 by omega), Option.bind_some, holds_bt _ (show t < 31 by omega), Option.bind_some, nI_1, if_pos rfl, shl_4 (show s < 8 by omega), shl_4 (show t < 8 by omega), if_neg (show ¬ (1 : Int32) = 0 by decide), C_two, Option.bind_some]
      have L1 := lk1_le go wt (A ^^^ swx s t)
      have L2 := lk1_le go wt (B ^^^ swx s t)
      have L3 := lk1_le go wt A
      have L4 := lk1_le go wt B
      cases h1 : bt (A &&& (B ^^^ (-1))) s
      · rw [if_pos (by decide), swo_1 h1]
      · rw [if_neg (show ¬ (if true = true then (1 : Int32) else 0) = 0 by decide)]
        cases h2 : bt (B &&& (A ^^^ (-1))) t
        · rw [if_pos (by decide), swo_2 h2]
        · rw [if_neg (show ¬ (if true = true then (1 : Int32) else 0) = 0 by decide)]
          by_cases c : lk1 go wt (A ^^^ swx s t) + lk1 go wt (B ^^^ swx s t) ≤ lk1 go wt A + lk1 go wt B
          · rw [swo_3 c]
            exact if_pos ((nI_leI (by omega) (by omega)).mpr c)
          · rw [swo_4 h1 h2 c]
            exact if_neg (fun h => c ((nI_leI (by omega) (by omega)).mp h))
    · show F_Dia_firstSwapOf_L22 (nI n) go wt _ (nI s) A B (nI n) = _
      unfold F_Dia_firstSwapOf_L22
      rw [if_pos (nI_le (Nat.le_refl n) (by omega))]
    · cases fst1 (swo go wt A B s) 0 n <;> rfl
  · show F_Dia_firstSwapOf_L10 (nI n) go wt _ A B (nI n) = _
    unfold F_Dia_firstSwapOf_L10
    rw [if_pos (nI_le (Nat.le_refl n) (by omega))]
  · unfold swd
    cases fst1 (fun s => fst1 (swo go wt A B s) 0 n) 0 n <;> rfl
def swb (go wt hm : Nat → Int32) (n a b : Nat) : Option Int32 := (swd go wt n (hm a) (hm b)).map (fun q => (1000 : Int32) * nI a + (100 : Int32) * nI b + q)
def swa (go wt hm : Nat → Int32) (n m a : Nat) : Option Int32 := fst1 (fun i => swb go wt hm n a (a + 1 + i)) 0 (m - (a + 1))
theorem C_swap {go wt hm : Nat → Int32} {n m : Nat} (hn : n ≤ 8) (hm8 : m ≤ 8) : F_Dia_firstSwap (nI m) (nI n) go hm wt = some ((fst1 (swa go wt hm n m) 0 m).getD (-9)) := by
  unfold F_Dia_firstSwap
  refine (wh_findM (fun a => nI a) m (swa go wt hm n m) (fun r => Sum.inr r) (Sum.inl ()) 400 (by omega) (fun a ha => ?_) ?_).trans ?_
  · show F_Dia_firstSwap_L2 (nI m) (nI n) go hm wt (nI a) = _
    unfold F_Dia_firstSwap_L2
    rw [if_neg (nI_leN ha (by omega)), nI_1]
    refine (wh_findM (fun i => nI (a + 1 + i)) (m - (a + 1)) (fun i => swb go wt hm n a (a + 1 + i)) (fun r => Sum.inr r) (Sum.inl ()) 400 (by omega) (fun i hi => ?_) ?_).trans ?_
    · show F_Dia_firstSwap_L14 (nI m) (nI n) go hm wt (nI a) (nI (a + 1 + i)) = _
      have hb : a + 1 + i < m := by omega
      unfold F_Dia_firstSwap_L14 swb
      rw [if_neg (nI_leN hb (by omega)), C_ham hm8 ha, Option.bind_some, C_ham hm8 hb, Option.bind_some, C_swapOf hn, Option.bind_some, nI_1]
      cases e : swd go wt n (hm a) (hm (a + 1 + i)) with
      | none => rfl
      | some r => exact if_neg (swd_ge hn e)
    · show F_Dia_firstSwap_L14 (nI m) (nI n) go hm wt (nI a) (nI (a + 1 + (m - (a + 1)))) = _
      unfold F_Dia_firstSwap_L14
      rw [if_pos (nI_le (by omega) (by omega))]
    · unfold swa
      cases fst1 (fun i => swb go wt hm n a (a + 1 + i)) 0 (m - (a + 1)) <;> rfl
  · show F_Dia_firstSwap_L2 (nI m) (nI n) go hm wt (nI m) = _
    unfold F_Dia_firstSwap_L2
    rw [if_pos (nI_le (Nat.le_refl m) (by omega))]
  · cases fst1 (swa go wt hm n m) 0 m <;> rfl
-- the search of 64 seen as 8 times 8
theorem fst1_add {α : Type} (o : Nat → Option α) (k2 : Nat) : ∀ k1 i, fst1 o i (k1 + k2) = match fst1 o i k1 with | some r => some r | none => fst1 o (i + k1) k2
  | 0, i => by rw [Nat.zero_add]; rfl
  | k1 + 1, i => by
    have e : ∀ j, fst1 o i (j + 1) = match o i with | some r => some r | none => fst1 o (i + 1) j := fun _ => rfl
    rw [show k1 + 1 + k2 = (k1 + k2) + 1 by omega, e, e]
    cases o i with
    | some r => rfl
    | none =>
      show fst1 o (i + 1) (k1 + k2) = match fst1 o (i + 1) k1 with | some r => some r | none => fst1 o (i + (k1 + 1)) k2
      rw [fst1_add o k2 k1 (i + 1), show i + 1 + k1 = i + (k1 + 1) by omega]
theorem fst1_blk {α : Type} (o : Nat → Option α) : ∀ c s, fst1 o (8 * s) (8 * c) = fst1 (fun s => fst1 o (8 * s) 8) s c
  | 0, s => rfl
  | c + 1, s => by
    rw [show 8 * (c + 1) = 8 + 8 * c by omega, fst1_add, show 8 * s + 8 = 8 * (s + 1) by omega, fst1_blk o c (s + 1)]
    rfl
theorem fst1_shift {α : Type} (o : Nat → Option α) (p : Nat) : ∀ k i, fst1 o (p + i) k = fst1 (fun t => o (p + t)) i k
  | 0, _ => rfl
  | k + 1, i => by
    unfold fst1
    rw [show p + i + 1 = p + (i + 1) by omega, fst1_shift o p k (i + 1)]
theorem sw_64 {go wt : Nat → Int32} {n : Nat} (hn : n ≤ 8) {A B : Int32} (hA : ∀ s, n ≤ s → s < 8 → bt (A &&& (B ^^^ (-1))) s = false) (hB : ∀ s, n ≤ s → s < 8 → bt (B &&& (A ^^^ (-1))) s = false) : fst1 (fun k => swo go wt A B (k / 8) (k % 8)) 0 64 = swd go wt n A B := by
  have e1 := fst1_blk (fun k => swo go wt A B (k / 8) (k % 8)) 8 0
  have e1' : fst1 (fun k => swo go wt A B (k / 8) (k % 8)) 0 64 = fst1 (fun s => fst1 (fun k => swo go wt A B (k / 8) (k % 8)) (8 * s) 8) 0 8 := e1
  rw [e1']
  have e2 : ∀ s, fst1 (fun k => swo go wt A B (k / 8) (k % 8)) (8 * s) 8 = fst1 (swo go wt A B s) 0 n := by
    intro s
    have e3 := fst1_shift (fun k => swo go wt A B (k / 8) (k % 8)) (8 * s) 8 0
    rw [Nat.add_zero] at e3
    rw [e3, ← fst1_to (swo go wt A B s) hn (fun j j1 j2 => swo_2 (hB j j1 j2))]
    refine fst1_cong 8 0 (fun j _ hj => ?_)
    show swo go wt A B ((8 * s + j) / 8) ((8 * s + j) % 8) = _
    rw [show (8 * s + j) / 8 = s by omega, show (8 * s + j) % 8 = j by omega]
  unfold swd
  rw [← fst1_to (fun s => fst1 (swo go wt A B s) 0 n) hn (fun j j1 j2 => fst1_none _ n 0 (fun t _ _ => swo_1 (hA j j1 j2)))]
  exact fst1_cong 8 0 (fun j _ _ => e2 j)
-- the count of days with a likeliest
def dlc (go wt hm : Nat → Int32) : Nat → Nat
  | 0 => 0
  | d + 1 => dlc go wt hm d + lk1 go wt (hm d)
theorem dlc_le (go wt hm : Nat → Int32) : ∀ d, dlc go wt hm d ≤ d
  | 0 => Nat.le_refl 0
  | d + 1 => by
    have := dlc_le go wt hm d
    have := lk1_le go wt (hm d)
    rw [dlc]
    omega
theorem dlc_out (go wt hm : Nat → Int32) (a : Nat) (v : Int32) : ∀ m, m ≤ a → dlc go wt (upd hm a v) m = dlc go wt hm m
  | 0, _ => rfl
  | m + 1, h => by
    rw [dlc, dlc, dlc_out go wt hm a v m (by omega), updN _ _ (by omega)]
theorem dlc_upd (go wt hm : Nat → Int32) {a : Nat} (v : Int32) : ∀ m, a < m → dlc go wt (upd hm a v) m + lk1 go wt (hm a) = dlc go wt hm m + lk1 go wt v
  | 0, h => absurd h (by omega)
  | m + 1, h => by
    rw [dlc, dlc]
    by_cases e : m = a
    · subst e
      rw [dlc_out go wt hm m v m (Nat.le_refl m), updA]
      omega
    · have ih := dlc_upd go wt hm (a := a) v m (by omega)
      rw [updN _ _ e]
      omega
theorem M_days {fg kd go hm wt : Nat → Int32} {n m : Nat} (hn : n ≤ 8) (hm8 : m ≤ 8) (ht : ∀ j, j < n → ∃ k f, k < 6 ∧ f ≤ 9 ∧ kd j = nI k ∧ fg j = nI f ∧ go j = nI (gw k f)) (hd : ∀ j, j < m → ∃ h, h < 2 ^ n ∧ hm j = nI h) : F_M_likelyDays (nI m) (nI n) fg hm kd wt = some (nI (dlc go wt hm m)) := by
  refine M_likelyD hn hm8 ht hd (dlc go wt hm) rfl (fun d _ => ?_)
  rw [dlc, lk1]
  split <;> omega
theorem xo_n {n a b : Nat} (hn : n ≤ 8) (ha : a < 2 ^ n) (hb : b < 2 ^ n) : ∃ k, k < 2 ^ n ∧ nI a ^^^ nI b = nI k := by
  obtain ⟨p1, p2⟩ := pow_le hn
  have p4 : a ^^^ b < 2 ^ n := Nat.xor_lt_two_pow ha hb
  refine ⟨a ^^^ b, p4, ?_⟩
  apply Int32.toBitVec_inj.mp
  rw [Int32.toBitVec_xor]
  apply BitVec.eq_of_toNat_eq
  rw [BitVec.toNat_xor, nI_toNat (by omega), nI_toNat (by omega), nI_toNat (by omega)]
theorem or_n {n a b : Nat} (hn : n ≤ 8) (ha : a < 2 ^ n) (hb : b < 2 ^ n) : ∃ k, k < 2 ^ n ∧ nI a ||| nI b = nI k := by
  obtain ⟨p1, p2⟩ := pow_le hn
  have p4 : a ||| b < 2 ^ n := Nat.or_lt_two_pow ha hb
  refine ⟨a ||| b, p4, ?_⟩
  apply Int32.toBitVec_inj.mp
  rw [Int32.toBitVec_or]
  apply BitVec.eq_of_toNat_eq
  rw [BitVec.toNat_or, nI_toNat (by omega), nI_toNat (by omega), nI_toNat (by omega)]
theorem upd4 (hm : Nat → Int32) {a b : Nat} (x y : Int32) : upd (upd (upd (upd hm a x) b y) a (hm a)) b (hm b) = hm := by
  funext j
  unfold upd
  by_cases c : j = b
  · rw [if_pos c, c]
  · rw [if_neg c]
    by_cases d : j = a
    · rw [if_pos d, d]
    · rw [if_neg d, if_neg c, if_neg d]
theorem P_swap {hk : Int32} {th : Int32} {dy : Int32} {dn : Int32} {wt : Nat → Int32} {kd : Nat → Int32} {fg : Nat → Int32} {go : Nat → Int32} {hm : Nat → Int32} {wi : Nat → Int32} {lf : Nat → Int32} {kth : Int32} {kdy : Int32} {kdn : Int32} {kwt : Nat → Int32} {kkd : Nat → Int32} {kfg : Nat → Int32} {kgo : Nat → Int32} {khm : Nat → Int32} {kwi : Nat → Int32} {klf : Nat → Int32} {sc : Int32} {sg : Nat → Nat} {sp : Nat → Int32} {sl : Nat → Int32} {sb : Nat → Int32} {sf : Nat → Int32} {sd : Nat → Int32} {lc : Int32} {lt : Nat → Int32} {nc : Int32} {nu : Nat → Int32} {im : Nat → Int32} {tu : Nat → Int32} (hI : Inv th dy dn wt kd fg go hm wi lf hk kth kdy kdn kwt kkd kfg kgo khm kwi klf im sc sg sp sl sb sf sd tu lt lc nu nc) : ∃ (r : Int32) (m_thrown' : Int32), F_H_swap dy th go hm wt = some r ∧ F_M_swap dy th fg hm kd wt = some (r, m_thrown', hm) := by
  obtain ⟨⟨n, m, q, hn, hm8, hq, rfl, rfl, rfl, hw, ht, hd, hf⟩, -⟩ := hI
  refine ⟨(fst1 (swa go wt hm n m) 0 m).getD (-9), 0, ?_, ?_⟩
  · unfold F_H_swap
    rw [C_swap hn hm8, Option.bind_some]
  · unfold F_M_swap
    rw [M_days hn hm8 ht hd, Option.bind_some]
    refine (wh_findM (fun a => (nI a, hm)) m (swa go wt hm n m) (fun r => Sum.inr (r, 0, hm)) (Sum.inl hm) 400 (by omega) (fun a ha => ?_) ?_).trans ?_
    · show F_M_swap_L12 (nI m) (nI n) fg kd wt (nI (dlc go wt hm m)) (nI a) hm = _
      unfold F_M_swap_L12
      rw [if_neg (nI_leN ha (by omega)), nI_1]
      refine (wh_findM (fun i => (nI (a + 1 + i), hm)) (m - (a + 1)) (fun i => swb go wt hm n a (a + 1 + i)) (fun r => Sum.inr (r, 0, hm)) (Sum.inl hm) 400 (by omega) (fun i hi => ?_) ?_).trans ?_
      · show F_M_swap_L24 (nI m) (nI n) fg kd wt (nI (dlc go wt hm m)) (nI a) (nI (a + 1 + i)) hm = _
        have hb : a + 1 + i < m := by omega
        have hab : a + 1 + i ≠ a := by omega
        unfold F_M_swap_L24 swb
        obtain ⟨b, eb⟩ : ∃ b, a + 1 + i = b := ⟨_, rfl⟩
        rw [eb] at hb hab ⊢
        rw [if_neg (nI_leN hb (by omega)), nI_1]
        obtain ⟨A, hA, eA⟩ := hd a ha
        obtain ⟨B, hB, eB⟩ := hd b hb
        have oA : ∀ s, n ≤ s → s < 8 → bt (hm a &&& (hm b ^^^ (-1))) s = false := by
          intro s s1 s2
          obtain ⟨k, k1, k2⟩ := and_lt hn hA (hm b ^^^ (-1))
          rw [eA, k2]
          exact bt_out n hn k k1 s s2 s1
        have oB : ∀ s, n ≤ s → s < 8 → bt (hm b &&& (hm a ^^^ (-1))) s = false := by
          intro s s1 s2
          obtain ⟨k, k1, k2⟩ := and_lt hn hB (hm a ^^^ (-1))
          rw [eB, k2]
          exact bt_out n hn k k1 s s2 s1
        rw [← sw_64 hn oA oB]
        refine (wh_findM (fun k => (nI k, hm)) 64 (fun k => swo go wt (hm a) (hm b) (k / 8) (k % 8)) (fun r => Sum.inr ((1000 : Int32) * nI a + (100 : Int32) * nI b + r, 0, hm)) (Sum.inl hm) 400 (by omega) (fun k hk => ?_) ?_).trans ?_
        · show F_M_swap_L35 (nI m) (nI n) fg kd wt (nI (dlc go wt hm m)) (nI a) (nI b) (nI k) hm = _
          have e1 : nI k / 8 = nI (k / 8) := D_div (b := 8) (by omega) (by omega)
          have e2 : nI k - nI k / 8 * 8 = nI (k % 8) := D_mod (b := 8) (by omega) (by omega) (by omega)
          unfold F_M_swap_L35
          rw [e2, e1, if_neg (nleC 64 64 hk (by omega) rfl), ck_nI _ (show a < 8 by omega) (by omega), ck_nI _ (show b < 8 by omega) (by omega), nI_clamp (show a < 2 ^ 31 by omega), nI_clamp (show b < 2 ^ 31 by omega), hasBit_bt, Option.bind_some, hasBit_bt, Option.bind_some, nI_1, shl_4 (show k / 8 < 8 by omega), shl_4 (show k % 8 < 8 by omega), ck_nI _ (show a < 8 by omega) (by omega), ck_nI _ (show b < 8 by omega) (by omega), upd4]
          cases h1 : bt (hm a &&& (hm b ^^^ (-1))) (k / 8)
          · rw [if_pos (by decide), swo_1 h1]
          · rw [if_neg (show ¬ (if true = true then (1 : Int32) else 0) = 0 by decide)]
            cases h2 : bt (hm b &&& (hm a ^^^ (-1))) (k % 8)
            · rw [if_pos (by decide), swo_2 h2]
            · rw [if_neg (show ¬ (if true = true then (1 : Int32) else 0) = 0 by decide)]
              have hs : k / 8 < n := by
                apply Decidable.byContradiction
                intro c
                rw [oA (k / 8) (by omega) (by omega)] at h1
                cases h1
              have ht' : k % 8 < n := by
                apply Decidable.byContradiction
                intro c
                rw [oB (k % 8) (by omega) (by omega)] at h2
                cases h2
              obtain ⟨X, hX, eX⟩ := or_n hn (Nat.pow_lt_pow_right (a := 2) (by omega) hs) (Nat.pow_lt_pow_right (a := 2) (by omega) ht')
              obtain ⟨A2, hA2, eA2⟩ := xo_n hn hA hX
              obtain ⟨B2, hB2, eB2⟩ := xo_n hn hB hX
              have hd2 : ∀ j, j < m → ∃ h, h < 2 ^ n ∧ upd (upd hm a (hm a ^^^ (nI (2 ^ (k / 8)) ||| nI (2 ^ (k % 8))))) b (hm b ^^^ (nI (2 ^ (k / 8)) ||| nI (2 ^ (k % 8)))) j = nI h := by
                intro j hj
                by_cases c1 : j = b
                · subst c1
                  exact ⟨B2, hB2, by rw [updA, eX, eB, eB2]⟩
                · rw [updN _ _ c1]
                  by_cases c2 : j = a
                  · subst c2
                    exact ⟨A2, hA2, by rw [updA, eX, eA, eA2]⟩
                  · rw [updN _ _ c2]
                    exact hd j hj
              rw [M_days hn hm8 ht hd2, Option.bind_some, ck_nI _ (show a < 8 by omega) (by omega), ck_nI _ (show b < 8 by omega) (by omega)]
              have u1 := dlc_upd go wt hm (a := a) (hm a ^^^ (nI (2 ^ (k / 8)) ||| nI (2 ^ (k % 8)))) m ha
              have u2 := dlc_upd go wt (upd hm a (hm a ^^^ (nI (2 ^ (k / 8)) ||| nI (2 ^ (k % 8))))) (a := b) (hm b ^^^ (nI (2 ^ (k / 8)) ||| nI (2 ^ (k % 8)))) m hb
              rw [updN _ _ hab] at u2
              have l1 := dlc_le go wt hm m
              have l2 := dlc_le go wt (upd (upd hm a (hm a ^^^ (nI (2 ^ (k / 8)) ||| nI (2 ^ (k % 8))))) b (hm b ^^^ (nI (2 ^ (k / 8)) ||| nI (2 ^ (k % 8))))) m
              by_cases c : lk1 go wt (hm a ^^^ swx (k / 8) (k % 8)) + lk1 go wt (hm b ^^^ swx (k / 8) (k % 8)) ≤ lk1 go wt (hm a) + lk1 go wt (hm b)
              · rw [swo_3 c]
                unfold swx at c
                exact if_pos ((nI_leI (by omega) (by omega)).mpr (by omega))
              · rw [swo_4 h1 h2 c]
                unfold swx at c
                refine (if_neg (fun h => c ?_)).trans ?_
                · have := (nI_leI (by omega) (by omega)).mp h
                  omega
                · rw [Int32.add_assoc ((1000 : Int32) * nI a + (100 : Int32) * nI b)]
        · show F_M_swap_L35 (nI m) (nI n) fg kd wt _ (nI a) (nI b) (nI 64) hm = _
          unfold F_M_swap_L35
          rw [if_pos (by decide)]
        · subst eb
          cases fst1 (fun k => swo go wt (hm a) (hm (a + 1 + i)) (k / 8) (k % 8)) 0 64 <;> rfl
      · show F_M_swap_L24 (nI m) (nI n) fg kd wt _ (nI a) (nI (a + 1 + (m - (a + 1)))) hm = _
        unfold F_M_swap_L24
        rw [if_pos (nI_le (by omega) (by omega))]
      · unfold swa
        cases fst1 (fun i => swb go wt hm n a (a + 1 + i)) 0 (m - (a + 1)) <;> rfl
    · show F_M_swap_L12 (nI m) (nI n) fg kd wt _ (nI m) hm = _
      unfold F_M_swap_L12
      rw [if_pos (nI_le (Nat.le_refl m) (by omega))]
    · cases fst1 (swa go wt hm n m) 0 m <;> rfl
