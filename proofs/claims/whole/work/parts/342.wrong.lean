-- wrong: days gone wrong by chance
theorem C_undo (l lf wi : Nat → Int32) (x : Int32) : F_Fld_undoWork (cpf l (spl lf wi x) 4) (ixO (ffw lf wi x)) = some (cpf l lf 4) := by
  unfold F_Fld_undoWork
  cases e : ffw lf wi x with
  | none =>
    rw [spl_n e]
    rfl
  | some f =>
    obtain ⟨h4, -, -⟩ := ffw_in e
    rw [spl_y e]
    show (F_H_isField (nI f)).bind _ = _
    rw [isF_y h4, Option.bind_some, if_neg (by decide)]
    show ck (nI f) 4 (ck (nI f) 4 (some (upd _ (nI f).toNatClampNeg (cpf l (upd lf f (lf f - 1)) 4 (nI f).toNatClampNeg + 1)))) = _
    rw [ck_nI _ h4 (by omega), ck_nI _ h4 (by omega), nI_clamp (show f < 2 ^ 31 by omega), upd_cp _ _ _ h4, updU, cpf_at h4, updA, Int32.sub_add_cancel, updS]
def wys (t nd : Nat) (W wi : Nat → Int32) : Nat → (Nat → Int32) → Nat
  | 0, lf => if aLf lf = 0 then 1 else 0
  | r + 1, lf => wys t nd W wi r (spl lf wi (W (nd - (r + 1)))) * (t - 1) + wys t nd W wi r (spl lf wi 1)
theorem wys_le {t nd : Nat} (ht : 1 ≤ t) (W wi : Nat → Int32) : ∀ r lf, wys t nd W wi r lf ≤ t ^ r
  | 0, lf => by
    rw [wys, Nat.pow_zero]
    split <;> omega
  | r + 1, lf => by
    rw [wys, Nat.pow_succ]
    have h1 := Nat.mul_le_mul_right (t - 1) (wys_le (nd := nd) ht W wi r (spl lf wi (W (nd - (r + 1)))))
    have h2 := wys_le (nd := nd) ht W wi r (spl lf wi 1)
    have h3 : t ^ r * t = t ^ r * (t - 1) + t ^ r := by
      rw [← Nat.mul_succ]
      congr 1
      omega
    omega
theorem aLf_cp (l lf : Nat → Int32) : aLf (cpf l lf 4) = aLf lf := by
  unfold aLf
  rw [cpf_at (show 0 < 4 by omega), cpf_at (show 1 < 4 by omega), cpf_at (show 2 < 4 by omega), cpf_at (show 3 < 4 by omega)]
theorem t_1 {t : Nat} (h : 1 ≤ t) (h2 : t < 2 ^ 31) : Int32.toInt64 (nI t - 1) = lQ (t - 1) := by
  rw [sub1 h, lQ_of (by omega)]
theorem C_ways {t nd : Nat} (ht : 1 ≤ t) (ht2 : t < 2 ^ 31) (hnd : nd ≤ 8) (l w we W wi : Nat → Int32) (c : Nat) : ∀ r lf, r ≤ nd → F_Har_waysFrom (c + r + 1) (nI nd) (nI t) (cpf l lf 4) (cpf w wi 4) (cpf we W 8) (nI (nd - r)) = some (lQ (wys t nd W wi r lf), cpf l lf 4)
  | 0, lf, _ => by
    show B_Har_waysFrom (F_Har_waysFrom c) (nI nd) (nI t) (cpf l lf 4) (cpf w wi 4) (cpf we W 8) (nI (nd - 0)) = _
    unfold B_Har_waysFrom F_Har_waysFrom_J14_2
    rw [if_pos (nI_le (by omega) (by omega)), C_all, Option.bind_some, aLf_cp, wys]
    by_cases c : aLf lf = 0
    · rw [if_pos c, if_pos c]
      rfl
    · rw [if_neg c, if_neg c]
      rfl
  | r + 1, lf, hr => by
    show B_Har_waysFrom (F_Har_waysFrom (c + r + 1)) (nI nd) (nI t) (cpf l lf 4) (cpf w wi 4) (cpf we W 8) (nI (nd - (r + 1))) = _
    have e1 : nI (nd - (r + 1)) + 1 = nI (nd - r) := by
      rw [nI_1]
      congr 1
      omega
    unfold B_Har_waysFrom
    rw [if_neg (nI_leN (show nd - (r + 1) < nd by omega) (by omega)), if_pos (ltC 8 8 (show nd - (r + 1) < 8 by omega) (by omega) rfl), ck_nI _ (show nd - (r + 1) < 8 by omega) (by omega), nI_clamp (show nd - (r + 1) < 2 ^ 31 by omega), cpf_at (show nd - (r + 1) < 8 by omega), C_work, Option.bind_some, ffw_cp, spl_cp, e1, C_ways ht ht2 hnd l w we W wi c r _ (by omega), Option.bind_some, C_undo, Option.bind_some, C_work, Option.bind_some, ffw_cp, spl_cp, C_ways ht ht2 hnd l w we W wi c r _ (by omega), Option.bind_some, C_undo, Option.bind_some, t_1 ht ht2, lQ_mul, lQ_add, wys]
-- the sum over the days gone wrong
def wg (W : Nat → Int32) (g : Nat) : Nat → Int32 := fun i => if g / 2 ^ i % 2 = 1 then 1 else W i
def wpr (t g : Nat) : Nat → Nat
  | 0 => 1
  | i + 1 => wpr t g i * (if g / 2 ^ i % 2 = 1 then 1 else t - 1)
def wrn (t nd : Nat) (W wi : Nat → Int32) : Nat → (Nat → Int32) → Nat → Nat → Nat
  | 0, lf, p, _ => if aLf lf = 0 then p else 0
  | r + 1, lf, p, g => wrn t nd W wi r (spl lf wi (if g % 2 = 1 then 1 else W (nd - (r + 1)))) (p * (if g % 2 = 1 then 1 else t - 1)) (g / 2)
def smN (f : Nat → Nat) : Nat → Nat
  | 0 => 0
  | k + 1 => smN f k + f k
theorem smN_cong {f f2 : Nat → Nat} : ∀ k, (∀ i, i < k → f i = f2 i) → smN f k = smN f2 k
  | 0, _ => rfl
  | k + 1, h => by
    rw [smN, smN, h k (by omega), smN_cong k (fun i hi => h i (by omega))]
theorem smN_two (f : Nat → Nat) : ∀ k, smN f (2 * k) = smN (fun g => f (2 * g) + f (2 * g + 1)) k
  | 0 => rfl
  | k + 1 => by
    rw [show 2 * (k + 1) = 2 * k + 1 + 1 by omega, smN, smN, smN, smN_two f k, Nat.add_assoc]
theorem smN_sum (f f2 : Nat → Nat) : ∀ k, smN (fun g => f g + f2 g) k = smN f k + smN f2 k
  | 0 => rfl
  | k + 1 => by
    rw [smN, smN, smN, smN_sum f f2 k]
    omega
theorem wrn_sum {t nd : Nat} (W wi : Nat → Int32) : ∀ r lf p, smN (fun g => wrn t nd W wi r lf p g) (2 ^ r) = p * wys t nd W wi r lf
  | 0, lf, p => by
    show 0 + (if aLf lf = 0 then p else 0) = p * (if aLf lf = 0 then 1 else 0)
    by_cases c : aLf lf = 0
    · rw [if_pos c, if_pos c]
      omega
    · rw [if_neg c, if_neg c, Nat.mul_zero]
  | r + 1, lf, p => by
    have e : ∀ g, g < 2 ^ r → wrn t nd W wi (r + 1) lf p (2 * g) + wrn t nd W wi (r + 1) lf p (2 * g + 1) = wrn t nd W wi r (spl lf wi (W (nd - (r + 1)))) (p * (t - 1)) g + wrn t nd W wi r (spl lf wi 1) (p * 1) g := by
      intro g _
      rw [wrn, wrn, show 2 * g % 2 = 0 by omega, show (2 * g + 1) % 2 = 1 by omega, show 2 * g / 2 = g by omega, show (2 * g + 1) / 2 = g by omega, if_neg (by omega), if_neg (by omega), if_pos rfl, if_pos rfl]
    rw [Nat.pow_succ, Nat.mul_comm (2 ^ r) 2, smN_two, smN_cong _ e, smN_sum, wrn_sum W wi r, wrn_sum W wi r, wys, Nat.mul_add, Nat.mul_one, Nat.mul_assoc, Nat.mul_comm (t - 1)]
theorem wrn_run {t nd : Nat} (W wi lf : Nat → Int32) (g : Nat) : ∀ i, i ≤ nd → wrn t nd W wi (nd - i) (gwl nsk (wg W g) lf wi i) (wpr t g i) (g / 2 ^ i) = wrn t nd W wi nd lf 1 g
  | 0, _ => by
    rw [Nat.pow_zero, Nat.div_one]
    rfl
  | i + 1, hi => by
    have ih := wrn_run (t := t) (nd := nd) W wi lf g i (by omega)
    rw [← ih, show nd - i = nd - (i + 1) + 1 by omega, wrn, gwl, wpr, if_neg (nsk_n i), Nat.pow_succ, ← Nat.div_div_eq_div_mul, show nd - (nd - (i + 1) + 1) = i by omega]
    rfl
theorem wrn_all {t nd : Nat} (W wi lf : Nat → Int32) : smN (fun g => if aLf (gwl nsk (wg W g) lf wi nd) = 0 then wpr t g nd else 0) (2 ^ nd) = wys t nd W wi nd lf := by
  have h := wrn_sum (t := t) (nd := nd) W wi nd lf 1
  rw [Nat.one_mul] at h
  rw [← h]
  refine smN_cong _ (fun g _ => ?_)
  rw [← wrn_run W wi lf g nd (Nat.le_refl nd), Nat.sub_self, wrn]
theorem bt_div {g i : Nat} (hg : g < 256) (hi : i < 8) : bt (nI g) i = decide (g / 2 ^ i % 2 = 1) := by
  have key : ∀ g : Fin 256, ∀ i : Fin 8, bt (nI g.val) i.val = decide (g.val / 2 ^ i.val % 2 = 1) := by decide +kernel
  exact key ⟨g, hg⟩ ⟨i, hi⟩
theorem M_wrong122 {fg kd go hm wt : Nat → Int32} {n m k t g : Nat} (hn : n ≤ 8) (hm8 : m ≤ 8) (ht : ∀ j, j < n → ∃ k f, k < 6 ∧ f ≤ 9 ∧ kd j = nI k ∧ fg j = nI f ∧ go j = nI (gw k f)) (hd : ∀ j, j < m → ∃ h, h < 2 ^ n ∧ hm j = nI h) (hk : k ≤ m) (ht1 : 1 ≤ t) (ht2 : t < 2 ^ 31) (hg : g < 256) (dn : Int32) (lf wi : Nat → Int32) : wh (fun (s : (Int64) × (Int32) × (Int32) × (Nat → Int32)) => F_M_wrong_L122 fg hm kd (nI n) wi wt (nI g) (nI k) (nI t) s.1 s.2.1 s.2.2.1 s.2.2.2) 400 ((1 : Int64), (0 : Int32), dn, lf) = some (lQ (wpr t g k), gwd nsk (wg (wthr go wt hm m) g) lf wi dn k, gwl nsk (wg (wthr go wt hm m) g) lf wi k) := by
  refine wh_for (fun i => (lQ (wpr t g i), nI i, gwd nsk (wg (wthr go wt hm m) g) lf wi dn i, gwl nsk (wg (wthr go wt hm m) g) lf wi i)) k (lQ (wpr t g k), gwd nsk (wg (wthr go wt hm m) g) lf wi dn k, gwl nsk (wg (wthr go wt hm m) g) lf wi k) (fun i hi => ?_) ?_ 400 (by omega)
  · show F_M_wrong_L122 fg hm kd (nI n) wi wt (nI g) (nI k) (nI t) (lQ (wpr t g i)) (nI i) (gwd nsk (wg (wthr go wt hm m) g) lf wi dn i) (gwl nsk (wg (wthr go wt hm m) g) lf wi i) = some (Sum.inl (lQ (wpr t g (i + 1)), nI (i + 1), gwd nsk (wg (wthr go wt hm m) g) lf wi dn (i + 1), gwl nsk (wg (wthr go wt hm m) g) lf wi (i + 1)))
    have him : i < m := by omega
    have hb := bt_div hg (show i < 8 by omega)
    unfold F_M_wrong_L122 F_M_wrong_J148_14 F_M_wrong_J172_17
    rw [if_neg (nI_leN hi (by omega)), hasBit_bt, Option.bind_some, Option.bind_some, Option.bind_some, hb, wpr, gwd, gwl, if_neg (nsk_n i), if_neg (nsk_n i)]
    by_cases c : g / 2 ^ i % 2 = 1
    · have ew : wg (wthr go wt hm m) g i = nI 1 := if_pos c
      have e0 : ¬ (if decide (g / 2 ^ i % 2 = 1) = true then (1 : Int32) else 0) = 0 := by
        rw [if_pos (decide_eq_true c)]
        decide
      rw [if_neg e0, if_neg e0, if_pos c, ew, show (1 : Int32) = nI 1 from rfl, M_spend (Or.inr ⟨1, by omega, rfl⟩), Option.bind_some, show (1 : Int64) = lQ 1 by decide +kernel, lQ_mul, show nI i + nI 1 = nI (i + 1) from nI_1 i]
    · have ew : wg (wthr go wt hm m) g i = wthr go wt hm m i := if_neg c
      have e0 : (if decide (g / 2 ^ i % 2 = 1) = true then (1 : Int32) else 0) = 0 := by
        rw [if_neg (fun h => c (of_decide_eq_true h))]
      rw [if_pos e0, if_pos e0, if_neg c, ew, M_on hn hm8 ht hd him, Option.bind_some, ← wthr_y (go := go) (wt := wt) (hm := hm) him, M_spend (wthr_or go wt hm m i), Option.bind_some, t_1 ht1 ht2, lQ_mul, nI_1]
  · show F_M_wrong_L122 fg hm kd (nI n) wi wt (nI g) (nI k) (nI t) _ (nI k) _ _ = _
    unfold F_M_wrong_L122
    exact if_pos (by show nI k ≤ nI k; rw [i32_le]; omega)
theorem C_power {t k : Nat} (ht2 : t < 2 ^ 31) (hk : k ≤ 8) : F_H_power (nI t) (nI k) = some (lQ (t ^ k)) := by
  have e : wh (fun (s : (Int64) × (Int32)) => F_H_power_L5 (nI t) (nI k) s.1 s.2) 400 (lQ (t ^ 0), (0 : Int32)) = some (lQ (t ^ k)) := by
    refine wh_for (fun i => (lQ (t ^ i), nI i)) k (lQ (t ^ k)) (fun i hi => ?_) ?_ 400 (by omega)
    · show F_H_power_L5 (nI t) (nI k) (lQ (t ^ i)) (nI i) = some (Sum.inl (lQ (t ^ (i + 1)), nI (i + 1)))
      unfold F_H_power_L5
      rw [if_neg (nI_leN hi (by omega)), lQ_of ht2, lQ_mul, nI_1, Nat.pow_succ]
    · show F_H_power_L5 (nI t) (nI k) (lQ (t ^ k)) (nI k) = _
      unfold F_H_power_L5
      exact if_pos (by rw [i32_le]; omega)
  rw [Nat.pow_zero, show lQ 1 = 1 by decide +kernel] at e
  unfold F_H_power
  rw [e]
  rfl
theorem M_power {t k : Nat} (ht2 : t < 2 ^ 31) (hk : k ≤ 8) : wh (fun (s : (Int64) × (Int32)) => F_M_wrong_L82 (nI k) (nI t) s.1 s.2) 400 ((1 : Int64), (0 : Int32)) = some (lQ (t ^ k)) := by
  have e : wh (fun (s : (Int64) × (Int32)) => F_M_wrong_L82 (nI k) (nI t) s.1 s.2) 400 (lQ (t ^ 0), (0 : Int32)) = some (lQ (t ^ k)) := by
    refine wh_for (fun i => (lQ (t ^ i), nI i)) k (lQ (t ^ k)) (fun i hi => ?_) ?_ 400 (by omega)
    · show F_M_wrong_L82 (nI k) (nI t) (lQ (t ^ i)) (nI i) = some (Sum.inl (lQ (t ^ (i + 1)), nI (i + 1)))
      unfold F_M_wrong_L82
      rw [if_neg (nI_leN hi (by omega)), lQ_of ht2, lQ_mul, nI_1, Nat.pow_succ]
    · show F_M_wrong_L82 (nI k) (nI t) (lQ (t ^ k)) (nI k) = _
      unfold F_M_wrong_L82
      exact if_pos (by rw [i32_le]; omega)
  rw [Nat.pow_zero, show lQ 1 = 1 by decide +kernel] at e
  exact e
def wsu (t k : Nat) (W wi lf : Nat → Int32) : Nat → Nat := smN (fun g => if aLf (gwl nsk (wg W g) lf wi k) = 0 then wpr t g k else 0)
theorem M_wrong108 {fg kd go hm wt : Nat → Int32} {n m k t : Nat} (hn : n ≤ 8) (hm8 : m ≤ 8) (ht : ∀ j, j < n → ∃ k f, k < 6 ∧ f ≤ 9 ∧ kd j = nI k ∧ fg j = nI f ∧ go j = nI (gw k f)) (hd : ∀ j, j < m → ∃ h, h < 2 ^ n ∧ hm j = nI h) (hk : k ≤ m) (ht1 : 1 ≤ t) (ht2 : t < 2 ^ 31) (dn : Int32) (kept lf wi : Nat → Int32) : wh (fun (s : (Int64) × (Int32) × (Int32) × (Int32) × (Int32) × (Int32) × (Int32) × (Int32) × (Nat → Int32) × (Nat → Int32) × (Nat → Int32) × (Nat → Int32) × (Nat → Int32) × (Nat → Int32) × (Nat → Int32)) => F_M_wrong_L108 (nI k) (nI t) s.1 s.2.1 s.2.2.1 s.2.2.2.1 s.2.2.2.2.1 s.2.2.2.2.2.1 s.2.2.2.2.2.2.1 s.2.2.2.2.2.2.2.1 s.2.2.2.2.2.2.2.2.1 s.2.2.2.2.2.2.2.2.2.1 s.2.2.2.2.2.2.2.2.2.2.1 s.2.2.2.2.2.2.2.2.2.2.2.1 s.2.2.2.2.2.2.2.2.2.2.2.2.1 s.2.2.2.2.2.2.2.2.2.2.2.2.2.1 s.2.2.2.2.2.2.2.2.2.2.2.2.2.2) 400 ((0 : Int64), (0 : Int32), nI m, dn, 1, 1, nI 41, nI n, fg, hm, cpf kept (evS (nI n) (nI m) dn wt kd fg hm wi lf) 41, kd, lf, wi, wt) = some (lQ (wsu t k (wthr go wt hm m) wi lf (2 ^ k)), nI m, dn, (if 2 ^ k = 0 then 1 else 0), 1, nI 41, nI n, fg, hm, cpf kept (evS (nI n) (nI m) dn wt kd fg hm wi lf) 41, kd, lf, wi, wt) := by
  have h256 : 2 ^ k ≤ 256 := Nat.pow_le_pow_right (n := 2) (by omega) (show k ≤ 8 by omega)
  have es : (1 : Int32) <<< ((nI k : Int32) &&& 31) = nI (2 ^ k) := shl_n (by omega)
  have e0 : (0 : Int64) = lQ (wsu t k (wthr go wt hm m) wi lf 0) := by
    show (0 : Int64) = lQ 0
    decide +kernel
  rw [e0]
  refine wh_for (fun g => (lQ (wsu t k (wthr go wt hm m) wi lf g), nI g, nI m, dn, (if g = 0 then (1 : Int32) else 0), (1 : Int32), nI 41, nI n, fg, hm, cpf kept (evS (nI n) (nI m) dn wt kd fg hm wi lf) 41, kd, lf, wi, wt)) (2 ^ k) (lQ (wsu t k (wthr go wt hm m) wi lf (2 ^ k)), nI m, dn, (if 2 ^ k = 0 then (1 : Int32) else 0), 1, nI 41, nI n, fg, hm, cpf kept (evS (nI n) (nI m) dn wt kd fg hm wi lf) 41, kd, lf, wi, wt) (fun g hg => ?_) ?_ 400 (by omega)
  · show F_M_wrong_L108 (nI k) (nI t) (lQ (wsu t k (wthr go wt hm m) wi lf g)) (nI g) (nI m) dn (if g = 0 then (1 : Int32) else 0) 1 (nI 41) (nI n) fg hm (cpf kept (evS (nI n) (nI m) dn wt kd fg hm wi lf) 41) kd lf wi wt = some (Sum.inl (lQ (wsu t k (wthr go wt hm m) wi lf (g + 1)), nI (g + 1), nI m, dn, (if g + 1 = 0 then (1 : Int32) else 0), (1 : Int32), nI 41, nI n, fg, hm, cpf kept (evS (nI n) (nI m) dn wt kd fg hm wi lf) 41, kd, lf, wi, wt))
    have fin : ∀ (s : Int64) (x : Nat), s = lQ x → F_M_wrong_J197_22 (nI m) fg hm (cpf kept (evS (nI n) (nI m) dn wt kd fg hm wi lf) 41) kd (nI n) wi wt (lQ (wsu t k (wthr go wt hm m) wi lf g)) (nI g) (lQ (wpr t g k), gwd nsk (wg (wthr go wt hm m) g) lf wi dn k, gwl nsk (wg (wthr go wt hm m) g) lf wi k) s = some (Sum.inl (lQ (wsu t k (wthr go wt hm m) wi lf g + x), nI (g + 1), nI m, dn, (if g + 1 = 0 then (1 : Int32) else 0), (1 : Int32), nI 41, nI n, fg, hm, cpf kept (evS (nI n) (nI m) dn wt kd fg hm wi lf) 41, kd, lf, wi, wt)) := by
      intro s x hs
      subst hs
      unfold F_M_wrong_J197_22
      show (F_M_again (nI m) (gwd nsk (wg (wthr go wt hm m) g) lf wi dn k) (nI n) fg hm (cpf kept (evS (nI n) (nI m) dn wt kd fg hm wi lf) 41) kd (gwl nsk (wg (wthr go wt hm m) g) lf wi k) wi wt).bind _ = _
      rw [M_again (evS_Enc kept (nI n) (nI m) dn wt kd fg hm wi lf), Option.bind_some, cpf_id, cpf_id, cpf_id, cpf_id, cpf_id, cpf_back (c := lf) (fun j hj => rfl) (fun j hj => gwl_out nsk (wg (wthr go wt hm m) g) lf wi hj k), lQ_add, nI_1, if_neg (show ¬ g + 1 = 0 by omega)]
    unfold F_M_wrong_L108
    rw [es, if_neg (nI_leN hg (by omega)), M_wrong122 hn hm8 ht hd hk ht1 ht2 (by omega) dn lf wi, Option.bind_some, M_all, Option.bind_some]
    show _ = some (Sum.inl (lQ (wsu t k (wthr go wt hm m) wi lf g + (if aLf (gwl nsk (wg (wthr go wt hm m) g) lf wi k) = 0 then wpr t g k else 0)), _))
    by_cases c : aLf (gwl nsk (wg (wthr go wt hm m) g) lf wi k) = 0
    · rw [if_pos c, if_pos c]
      exact fin _ _ rfl
    · rw [if_neg c, if_neg c]
      exact fin 0 0 (by decide +kernel)
  · show F_M_wrong_L108 (nI k) (nI t) _ (nI (2 ^ k)) (nI m) dn _ 1 (nI 41) (nI n) fg hm _ kd lf wi wt = _
    unfold F_M_wrong_L108
    rw [es]
    exact if_pos (by rw [i32_le]; omega)
theorem pw1 {t : Nat} (ht : 1 ≤ t) : ∀ k, 1 ≤ t ^ k
  | 0 => by rw [Nat.pow_zero]; omega
  | k + 1 => by
    rw [Nat.pow_succ]
    exact Nat.mul_le_mul (pw1 ht k) ht
theorem mem20 {t k : Nat} (ht : t ≤ 20) (hk : k ≤ 8) : t ^ k < 2 ^ 62 := by
  by_cases c : t = 0
  · subst c
    have : 0 ^ k ≤ 1 := by
      cases k with
      | zero => exact Nat.le_refl _
      | succ k => rw [Nat.zero_pow (by omega)]; omega
    omega
  · have h1 : t ^ k ≤ 20 ^ k := Nat.pow_le_pow_left ht k
    have h2 : 20 ^ k ≤ 20 ^ 8 := Nat.pow_le_pow_right (by omega) hk
    omega
theorem P_wrong {hk : Int32} {th : Int32} {dy : Int32} {dn : Int32} {wt : Nat → Int32} {kd : Nat → Int32} {fg : Nat → Int32} {go : Nat → Int32} {hm : Nat → Int32} {wi : Nat → Int32} {lf : Nat → Int32} {kth : Int32} {kdy : Int32} {kdn : Int32} {kwt : Nat → Int32} {kkd : Nat → Int32} {kfg : Nat → Int32} {kgo : Nat → Int32} {khm : Nat → Int32} {kwi : Nat → Int32} {klf : Nat → Int32} {sc : Int32} {sg : Nat → Nat} {sp : Nat → Int32} {sl : Nat → Int32} {sb : Nat → Int32} {sf : Nat → Int32} {sd : Nat → Int32} {lc : Int32} {lt : Nat → Int32} {nc : Int32} {nu : Nat → Int32} {h_days : Int32} {h_oneIn : Int32} {h_fields_wishes : Nat → Int32} {h_fields_lefts : Nat → Int32} {h_weathers : Nat → Int32} {f_above : Int64} {f_below : Int64} {rf : Nat → Int32} {m_place0 : Int32} {m_isTaking : Int32} {m_keptIn : Int32} {m_kept : Nat → Int32} {im : Nat → Int32} {tu : Nat → Int32} (hI : Inv th dy dn wt kd fg go hm wi lf hk kth kdy kdn kwt kkd kfg kgo khm kwi klf im sc sg sp sl sb sf sd tu lt lc nu nc) (x1 : Int32) (x2 : Int32) (x3 : Int32) : ∃ (r : Int64) (h_days' : Int32) (h_oneIn' : Int32) (h_fields_wishes' : Nat → Int32) (h_fields_lefts' : Nat → Int32) (h_weathers' : Nat → Int32) (f_above' : Int64) (f_below' : Int64) (rf' : Nat → Int32) (m_thrown' : Int32) (m_place0' : Int32) (m_isTaking' : Int32) (m_keptIn' : Int32) (m_kept' : Nat → Int32), F_H_wrong f_above f_below h_days h_oneIn h_fields_lefts h_fields_wishes h_weathers dy lf wi go hm wt rf x1 x2 x3 = some (r, f_above', f_below', h_days', h_oneIn', h_fields_lefts', h_fields_wishes', h_weathers', rf') ∧ F_M_wrong dy dn m_isTaking m_keptIn m_place0 th fg hm m_kept kd lf rf wi wt x1 x2 x3 = some (r, dy, dn, m_isTaking', m_keptIn', m_place0', th, m_thrown', fg, hm, m_kept', kd, lf, rf', wi, wt) := by
  obtain ⟨⟨n, m, q, hn, hm8, hq, rfl, rfl, rfl, hw, ht, hd, hf⟩, -⟩ := hI
  have ref : ∀ c a : Int32, (c = -4 ∧ a = 4 ∨ c = -6 ∧ a = 6 ∨ c = -2 ∧ a = 2) → F_H_wrong f_above f_below h_days h_oneIn h_fields_lefts h_fields_wishes h_weathers (nI m) lf wi go hm wt rf x1 x2 x3 = some ((4000000000000000000 : Int64) - Int32.toInt64 c, f_above, f_below, h_days, h_oneIn, h_fields_lefts, h_fields_wishes, h_weathers, rfx rf a.toNatClampNeg) → F_M_wrong (nI m) (nI q) m_isTaking m_keptIn m_place0 (nI n) fg hm m_kept kd lf rf wi wt x1 x2 x3 = some ((4000000000000000000 : Int64) - Int32.toInt64 c, nI m, nI q, m_isTaking, m_keptIn, m_place0, nI n, 0, fg, hm, m_kept, kd, lf, rfx rf a.toNatClampNeg, wi, wt) → ∃ (r : Int64) (h_days' : Int32) (h_oneIn' : Int32) (h_fields_wishes' : Nat → Int32) (h_fields_lefts' : Nat → Int32) (h_weathers' : Nat → Int32) (f_above' : Int64) (f_below' : Int64) (rf' : Nat → Int32) (m_thrown' : Int32) (m_place0' : Int32) (m_isTaking' : Int32) (m_keptIn' : Int32) (m_kept' : Nat → Int32), F_H_wrong f_above f_below h_days h_oneIn h_fields_lefts h_fields_wishes h_weathers (nI m) lf wi go hm wt rf x1 x2 x3 = some (r, f_above', f_below', h_days', h_oneIn', h_fields_lefts', h_fields_wishes', h_weathers', rf') ∧ F_M_wrong (nI m) (nI q) m_isTaking m_keptIn m_place0 (nI n) fg hm m_kept kd lf rf wi wt x1 x2 x3 = some (r, nI m, nI q, m_isTaking', m_keptIn', m_place0', nI n, m_thrown', fg, hm, m_kept', kd, lf, rf', wi, wt) := by
    intro c a _ h1 h2
    exact ⟨_, _, _, _, _, _, _, _, _, _, _, _, _, _, h1, h2⟩
  have w4 : F_M_wrong_J45_2 (nI m) (nI q) m_isTaking m_keptIn m_place0 (nI n) fg hm m_kept kd lf rf wi wt x1 x2 x3 (-4) = some ((4000000000000000000 : Int64) - Int32.toInt64 (-4), nI m, nI q, m_isTaking, m_keptIn, m_place0, nI n, 0, fg, hm, m_kept, kd, lf, rfx rf 4, wi, wt) := rfl
  have w6 : F_M_wrong_J45_2 (nI m) (nI q) m_isTaking m_keptIn m_place0 (nI n) fg hm m_kept kd lf rf wi wt x1 x2 x3 (-6) = some ((4000000000000000000 : Int64) - Int32.toInt64 (-6), nI m, nI q, m_isTaking, m_keptIn, m_place0, nI n, 0, fg, hm, m_kept, kd, lf, rfx rf 6, wi, wt) := rfl
  by_cases c1 : x1 < 0
  · refine ref (-4) 4 (Or.inl ⟨rfl, rfl⟩) ?_ ?_
    · unfold F_H_wrong
      rw [if_pos c1]
      rfl
    · unfold F_M_wrong F_M_wrong_J14_26
      rw [if_pos c1, w4]
      rfl
  · by_cases c2 : (2 : Int32) ≤ x2
    · by_cases c3 : nI m < x1
      · refine ref (-6) 6 (Or.inr (Or.inl ⟨rfl, rfl⟩)) ?_ ?_
        · unfold F_H_wrong
          rw [if_neg c1, if_pos c2, if_pos c3]
          rfl
        · unfold F_M_wrong F_M_wrong_J39_29
          rw [if_neg c1, if_pos c2, w6]
          by_cases c4 : (8 : Int32) < x1
          · rw [if_pos c4]
            rfl
          · rw [if_neg c4, if_pos c3]
            rfl
      · rcases inR x1 (m + 1) (by omega) with ⟨k, hk, rfl⟩ | h | ⟨-, h⟩
        rotate_left
        · exact absurd h c1
        · rw [i32_lt, nI_toInt (by omega)] at c3
          rw [i32_le, nI_toInt (by omega)] at h
          omega
        have c4 : ¬ (8 : Int32) < nI k := by
          rw [i32_lt, nI_toInt (by omega), show (8 : Int32).toInt = 8 by decide +kernel]
          omega
        by_cases c5 : x2 ≤ 20
        · obtain ⟨t, ht2, ht20, rfl⟩ : ∃ t, 2 ≤ t ∧ t ≤ 20 ∧ x2 = nI t := by
            rcases inR x2 21 (by omega) with ⟨t, ht, rfl⟩ | h | ⟨-, h⟩
            · rw [i32_le, nI_toInt (by omega), show (2 : Int32).toInt = 2 by decide +kernel] at c2
              exact ⟨t, by omega, by omega, rfl⟩
            · rw [i32_lt, Int32.toInt_zero] at h
              rw [i32_le, show (2 : Int32).toInt = 2 by decide +kernel] at c2
              omega
            · rw [i32_le, nI_toInt (by omega)] at h
              rw [i32_le, show (20 : Int32).toInt = 20 by decide +kernel] at c5
              omega
          rcases inR x3 2 (by omega) with ⟨v, hv, rfl⟩ | h
          · have cb : F_M_wrongBit 0 (nI v) 1 = some 0 := by
              unfold F_M_wrongBit
              rw [if_pos rfl, M_in0_y 2 (Int32.toInt64 1) hv (by omega) (by decide +kernel)]
              rfl
            have hle := wys_le (nd := k) (show 1 ≤ t by omega) (wthr go wt hm m) wi k lf
            have hp := mem20 (k := k) ht20 (by omega)
            have hp0 : 1 ≤ t ^ k := pw1 (by omega) k
            obtain ⟨fr, r, r1, r2, r3⟩ := fracL hv (show wys t k (wthr go wt hm m) wi k lf < 2 ^ 62 by omega) hp (fun e => absurd e (by omega))
            refine ⟨r, nI k, nI t, cpf h_fields_wishes wi 4, cpf h_fields_lefts lf 4, cpf h_weathers (wthr go wt hm m) 8, fr.1, fr.2, rf, 0, nI 41, (if 2 ^ k = 0 then 1 else 0), 1, cpf m_kept (evS (nI n) (nI m) (nI q) wt kd fg hm wi lf) 41, ?_, ?_⟩
            · have eK : (if nI m < nI k then nI m else nI k) = nI k := if_neg c3
              have eW := C_ways (t := t) (nd := k) (by omega) (by omega) (by omega) h_fields_lefts h_fields_wishes h_weathers (wthr go wt hm m) wi (9 - k) k lf (Nat.le_refl k)
              rw [show 9 - k + k + 1 = 10 by omega, Nat.sub_self] at eW
              unfold F_H_wrong F_Har_waysAllIn
              rw [if_neg c1, if_pos c2, if_neg c3, if_pos c5, isP_y hv, Option.bind_some, if_neg (by decide), C_begin hm8, Option.bind_some]
              show ((F_Har_waysFrom 10 (if nI m < nI k then nI m else nI k) (nI t) (cpf h_fields_lefts lf 4) (cpf h_fields_wishes wi 4) (cpf h_weathers (wthr go wt hm m) 8) (nI 0)).bind (fun q_2 => some (q_2.1, (if nI m < nI k then nI m else nI k), nI t, q_2.2, cpf h_fields_wishes wi 4, cpf h_weathers (wthr go wt hm m) 8))).bind _ = _
              rw [eK, eW, Option.bind_some, Option.bind_some, C_power (by omega) (by omega), Option.bind_some, r1, Option.bind_some, r2]
              rfl
            · have eL := M_wrong108 (t := t) (wt := wt) hn hm8 ht hd (show k ≤ m by omega) (by omega) (by omega) (nI q) m_kept lf wi
              rw [show wsu t k (wthr go wt hm m) wi lf (2 ^ k) = wys t k (wthr go wt hm m) wi k lf from wrn_all (wthr go wt hm m) wi lf] at eL
              unfold F_M_wrong F_M_wrong_J45_2
              rw [if_neg c1, if_pos c2, if_neg c4, if_neg c3, if_pos c5, cb, Option.bind_some, if_pos (by decide), M_power (by omega) (by omega), Option.bind_some, M_think, Option.bind_some]
              show ((wh _ 400 ((0 : Int64), (0 : Int32), nI m, nI q, 1, 1, nI 41, nI n, fg, hm, cpf m_kept (evS (nI n) (nI m) (nI q) wt kd fg hm wi lf) 41, kd, lf, wi, wt)).bind _) = _
              rw [eL, Option.bind_some, r3]
              rfl
          · refine ref (-2) 2 (Or.inr (Or.inr ⟨rfl, rfl⟩)) ?_ ?_
            · unfold F_H_wrong
              rw [if_neg c1, if_pos c2, if_neg c3, if_pos c5, isP_n h]
              rfl
            · have cb : F_M_wrongBit 0 x3 1 = some (-2) := by
                unfold F_M_wrongBit
                rw [if_pos rfl, M_in0_n 2 (Int32.toInt64 1) h (by omega) (by omega) (by decide +kernel)]
                rfl
              unfold F_M_wrong F_M_wrong_J45_2
              rw [if_neg c1, if_pos c2, if_neg c4, if_neg c3, if_pos c5, cb]
              rfl
        · refine ref (-6) 6 (Or.inr (Or.inl ⟨rfl, rfl⟩)) ?_ ?_
          · unfold F_H_wrong
            rw [if_neg c1, if_pos c2, if_neg c3, if_neg c5]
            rfl
          · unfold F_M_wrong F_M_wrong_J39_29
            rw [if_neg c1, if_pos c2, if_neg c4, if_neg c3, if_neg c5, w6]
            rfl
    · refine ref (-4) 4 (Or.inl ⟨rfl, rfl⟩) ?_ ?_
      · unfold F_H_wrong
        rw [if_neg c1, if_neg c2]
        rfl
      · unfold F_M_wrong F_M_wrong_J14_26
        rw [if_neg c1, if_neg c2, w4]
        rfl
