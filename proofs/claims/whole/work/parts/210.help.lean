-- HELP: small functions of both sides
def rfx (rf : Nat → Int32) (k : Nat) : Nat → Int32 := upd rf k (rf k + 1)
theorem rH1 (rf : Nat → Int32) : F_H_refused rf (-1) = some (-1, rfx rf 1) := rfl
theorem rH2 (rf : Nat → Int32) : F_H_refused rf (-2) = some (-2, rfx rf 2) := rfl
theorem rH3 (rf : Nat → Int32) : F_H_refused rf (-3) = some (-3, rfx rf 3) := rfl
theorem rH4 (rf : Nat → Int32) : F_H_refused rf (-4) = some (-4, rfx rf 4) := rfl
theorem rH6 (rf : Nat → Int32) : F_H_refused rf (-6) = some (-6, rfx rf 6) := rfl
theorem rM1 (rf : Nat → Int32) : F_M_refuse rf (-1) = some (-1, rfx rf 1) := rfl
theorem rM2 (rf : Nat → Int32) : F_M_refuse rf (-2) = some (-2, rfx rf 2) := rfl
theorem rM3 (rf : Nat → Int32) : F_M_refuse rf (-3) = some (-3, rfx rf 3) := rfl
theorem rM4 (rf : Nat → Int32) : F_M_refuse rf (-4) = some (-4, rfx rf 4) := rfl
theorem rM6 (rf : Nat → Int32) : F_M_refuse rf (-6) = some (-6, rfx rf 6) := rfl
theorem i32_lt {a b : Int32} : a < b ↔ a.toInt < b.toInt := Int32.lt_iff_toInt_lt
theorem i32_le {a b : Int32} : a ≤ b ↔ a.toInt ≤ b.toInt := Int32.le_iff_toInt_le
/-- an int is below, above, or one of the first n numbers -/
theorem inR (x : Int32) (n : Nat) (hn : n < 2 ^ 31) : (∃ d, d < n ∧ x = nI d) ∨ x < 0 ∨ (¬ x < 0 ∧ nI n ≤ x) := by
  by_cases h : x < 0
  · exact Or.inr (Or.inl h)
  · rw [i32_lt, Int32.toInt_zero] at h
    by_cases h2 : x.toInt < n
    · refine Or.inl ⟨x.toInt.toNat, by omega, ?_⟩
      apply Int32.toInt_inj.mp
      rw [nI_toInt (by omega)]
      omega
    · refine Or.inr (Or.inr ⟨by rw [i32_lt, Int32.toInt_zero]; exact h, ?_⟩)
      rw [i32_le, nI_toInt hn]
      omega
theorem nI_ge0 {d : Nat} (h : d < 2 ^ 31) : ¬ nI d < 0 := nI_pos h
theorem nI_leN {a b : Nat} (h : a < b) (hb : b < 2 ^ 31) : ¬ nI b ≤ nI a := nI_ge h hb
theorem nleC (c : Int32) (k : Nat) {d : Nat} (h : d < k) (hk : k < 2 ^ 31) (hc : c = nI k) : ¬ c ≤ nI d := by rw [hc]; exact nI_leN h hk
theorem leC (c : Int32) (k : Nat) {x : Int32} (h : nI k ≤ x) (hc : c = nI k) : c ≤ x := by rw [hc]; exact h
theorem ltC (c : Int32) (k : Nat) {d : Nat} (h : d < k) (hk : k < 2 ^ 31) (hc : c = nI k) : nI d < c := by rw [hc]; exact nI_lt h hk
theorem neC (c : Int32) (k : Nat) {d : Nat} (h : d ≠ k) (hd : d < 2 ^ 31) (hk : k < 2 ^ 31) (hc : c = nI k) : ¬ nI d = c := by rw [hc]; exact fun e => h ((nI_eq hd hk).mp e)
theorem outC {x : Int32} {n : Nat} (h : x < 0 ∨ (¬ x < 0 ∧ nI n ≤ x)) (c : Int32) (k : Nat) (hk : k < n) (hn : n < 2 ^ 31) (hc : c = nI k) : ¬ x = c := by
  intro e
  subst e
  subst hc
  rcases h with h | ⟨-, h⟩
  · exact nI_ge0 (by omega) h
  · exact nI_leN hk hn h
theorem M_in_y {x lo hi : Int32} {a b : Int64} (ha : a = lo.toInt64) (hb : b = hi.toInt64) (h1 : lo ≤ x) (h2 : x ≤ hi) : F_M_in (Int32.toInt64 x) a b = some 1 := by
  subst ha; subst hb
  unfold F_M_in
  rw [if_neg, if_neg]
  · rw [lg_cmp_gt, Int64.lt_iff_toInt_lt, Int32.toInt_toInt64, Int32.toInt_toInt64]
    have := i32_le.mp h2
    omega
  · rw [lg_cmp_lt, Int64.lt_iff_toInt_lt, Int32.toInt_toInt64, Int32.toInt_toInt64]
    have := i32_le.mp h1
    omega
theorem M_in_n {x lo hi : Int32} {a b : Int64} (ha : a = lo.toInt64) (hb : b = hi.toInt64) (h : x < lo ∨ hi < x) : F_M_in (Int32.toInt64 x) a b = some 0 := by
  subst ha; subst hb
  unfold F_M_in
  by_cases c : lg_cmp (Int32.toInt64 x) (Int32.toInt64 lo) < 0
  · rw [if_pos c]
  · rw [if_neg c, if_pos]
    rw [lg_cmp_gt, Int64.lt_iff_toInt_lt, Int32.toInt_toInt64, Int32.toInt_toInt64]
    rw [lg_cmp_lt, Int64.lt_iff_toInt_lt, Int32.toInt_toInt64, Int32.toInt_toInt64] at c
    rcases h with h | h
    · have := i32_lt.mp h; omega
    · exact i32_lt.mp h
/-- 'in' of a number against 0 .. n less 1 -/
theorem M_in0_y (n : Nat) (b : Int64) {d : Nat} (hd : d < n) (hn : n < 2 ^ 31) (hb : b = (nI (n - 1)).toInt64) : F_M_in (Int32.toInt64 (nI d)) 0 b = some 1 :=
  M_in_y (lo := 0) (hi := nI (n - 1)) rfl hb (nI_pos' (by omega)) (nI_le (by omega) (by omega))
theorem M_in0_n (n : Nat) (b : Int64) {x : Int32} (h : x < 0 ∨ (¬ x < 0 ∧ nI n ≤ x)) (hn : n < 2 ^ 31) (hn0 : 0 < n) (hb : b = (nI (n - 1)).toInt64) : F_M_in (Int32.toInt64 x) 0 b = some 0 := by
  refine M_in_n (lo := 0) (hi := nI (n - 1)) rfl hb ?_
  rcases h with h | ⟨-, h⟩
  · exact Or.inl h
  · right
    rw [i32_lt, nI_toInt (by omega)]
    rw [i32_le, nI_toInt hn] at h
    omega
theorem isW_y {d : Nat} (h : d < 6) : F_H_isWeather (nI d) = some 1 := by
  unfold F_H_isWeather
  rw [if_neg (nI_ge0 (by omega)), if_neg (nleC 6 6 h (by omega) rfl)]
theorem isW_n {x : Int32} (h : x < 0 ∨ (¬ x < 0 ∧ nI 6 ≤ x)) : F_H_isWeather x = some 0 := by
  unfold F_H_isWeather
  rcases h with h | ⟨h, h2⟩
  · rw [if_pos h]
  · rw [if_neg h, if_pos (leC 6 6 h2 rfl)]
theorem isF_y {d : Nat} (h : d < 4) : F_H_isField (nI d) = some 1 := by
  unfold F_H_isField
  rw [if_neg (nI_ge0 (by omega)), if_neg (nleC 4 4 h (by omega) rfl)]
theorem isF_n {x : Int32} (h : x < 0 ∨ (¬ x < 0 ∧ nI 4 ≤ x)) : F_H_isField x = some 0 := by
  unfold F_H_isField
  rcases h with h | ⟨h, h2⟩
  · rw [if_pos h]
  · rw [if_neg h, if_pos (leC 4 4 h2 rfl)]
theorem hasD_y {d m : Nat} (h : d < m) (hm : m ≤ 8) : F_Sta_hasDay (nI m) (nI d) = some 1 := by
  unfold F_Sta_hasDay
  rw [if_neg (nI_ge0 (by omega)), if_neg (nI_leN h (by omega)), if_neg (nleC 8 8 (Nat.lt_of_lt_of_le h hm) (by omega) rfl)]
theorem hasD_n {x : Int32} {m : Nat} (h : x < 0 ∨ (¬ x < 0 ∧ nI m ≤ x)) : F_Sta_hasDay (nI m) x = some 0 := by
  unfold F_Sta_hasDay
  rcases h with h | ⟨h, h2⟩
  · rw [if_pos h]
  · rw [if_neg h, if_pos h2]
theorem hasT_y {d m : Nat} (h : d < m) (hm : m ≤ 8) : F_Sta_hasThing (nI m) (nI d) = some 1 := by
  unfold F_Sta_hasThing
  rw [if_neg (nI_ge0 (by omega)), if_neg (nI_leN h (by omega)), if_neg (nleC 8 8 (Nat.lt_of_lt_of_le h hm) (by omega) rfl)]
theorem hasT_n {x : Int32} {m : Nat} (h : x < 0 ∨ (¬ x < 0 ∧ nI m ≤ x)) : F_Sta_hasThing (nI m) x = some 0 := by
  unfold F_Sta_hasThing
  rcases h with h | ⟨h, h2⟩
  · rw [if_pos h]
  · rw [if_neg h, if_pos h2]
theorem isD_y {d m : Nat} (h : d < m) (hm : m ≤ 8) : F_M_isDay (nI m) (nI d) = some 1 := by
  unfold F_M_isDay
  have e : nI m - 1 = nI (m - 1) := by
    have h2 := nI_pred (m - 1)
    rw [show m - 1 + 1 = m by omega] at h2
    exact h2
  rw [M_in0_y m _ h (by omega) (by rw [e])]
  rfl
theorem isD_n {x : Int32} {m : Nat} (h : x < 0 ∨ (¬ x < 0 ∧ nI m ≤ x)) (hm : m ≤ 8) : F_M_isDay (nI m) x = some 0 := by
  unfold F_M_isDay
  by_cases hm0 : m = 0
  · subst hm0
    have h0 : x < 0 ∨ -1 < x := by
      by_cases c : x < 0
      · exact Or.inl c
      · right
        rw [i32_lt]
        rw [i32_lt, Int32.toInt_zero] at c
        have e1 : (-1 : Int32).toInt = -1 := by decide +kernel
        rw [e1]
        omega
    have e2 := M_in_n (x := x) (lo := 0) (hi := -1) (a := 0) (b := Int32.toInt64 (nI 0 - 1)) rfl (by decide +kernel) h0
    rw [e2]
    rfl
  · have e : nI m - 1 = nI (m - 1) := by
      have h2 := nI_pred (m - 1)
      rw [show m - 1 + 1 = m by omega] at h2
      exact h2
    rw [M_in0_n m _ h (by omega) (by omega) (by rw [e])]
    rfl
theorem isT_y {d m : Nat} (h : d < m) (hm : m ≤ 8) : F_M_isThing (nI m) (nI d) = some 1 := isD_y h hm
theorem isT_n {x : Int32} {m : Nat} (h : x < 0 ∨ (¬ x < 0 ∧ nI m ≤ x)) (hm : m ≤ 8) : F_M_isThing (nI m) x = some 0 := isD_n h hm
theorem ck_nI {α : Type} {d n : Nat} (k : Option α) (h : d < n) (hn : n < 2 ^ 31) : ck (nI d) n k = k := ck_in (vp_in_nI h hn)
/-- loops: a row of states -/
theorem wh_for {σ ρ : Type} {step : σ → Option (σ ⊕ ρ)} (g : Nat → σ) (n : Nat) (r : ρ) (h1 : ∀ i, i < n → step (g i) = some (.inl (g (i + 1)))) (h2 : step (g n) = some (.inr r)) : ∀ fuel, n < fuel → wh step fuel (g 0) = some r := by
  have key : ∀ k, k ≤ n → ∀ fuel, k < fuel → wh step fuel (g (n - k)) = some r := by
    intro k
    induction k with
    | zero =>
      intro _ fuel hf
      obtain ⟨f, rfl⟩ : ∃ f, fuel = f + 1 := ⟨fuel - 1, by omega⟩
      unfold wh
      rw [Nat.sub_zero, h2]
    | succ k ih =>
      intro hk fuel hf
      obtain ⟨f, rfl⟩ : ∃ f, fuel = f + 1 := ⟨fuel - 1, by omega⟩
      unfold wh
      rw [h1 (n - (k + 1)) (by omega)]
      show wh step f (g (n - (k + 1) + 1)) = some r
      rw [show n - (k + 1) + 1 = n - k by omega]
      exact ih (by omega) f (by omega)
  intro fuel hf
  have := key n (Nat.le_refl n) fuel hf
  rwa [Nat.sub_self] at this
/-- loops that may end early: 'out i' is what ends it at the i-th round -/
def fst1 {ρ : Type} (out : Nat → Option ρ) : Nat → Nat → Option ρ
  | _, 0 => none
  | i, k + 1 => match out i with
    | some r => some r
    | none => fst1 out (i + 1) k
theorem wh_find {σ ρ : Type} {step : σ → Option (σ ⊕ ρ)} (g : Nat → σ) (n : Nat) (out : Nat → Option ρ) (fin : ρ) (h1 : ∀ i, i < n → step (g i) = match out i with | some r => some (.inr r) | none => some (.inl (g (i + 1)))) (h2 : step (g n) = some (.inr fin)) : ∀ fuel, n < fuel → wh step fuel (g 0) = some ((fst1 out 0 n).getD fin) := by
  have key : ∀ k, k ≤ n → ∀ fuel, k < fuel → wh step fuel (g (n - k)) = some ((fst1 out (n - k) k).getD fin) := by
    intro k
    induction k with
    | zero =>
      intro _ fuel hf
      obtain ⟨f, rfl⟩ : ∃ f, fuel = f + 1 := ⟨fuel - 1, by omega⟩
      unfold wh
      rw [Nat.sub_zero, h2]
      rfl
    | succ k ih =>
      intro hk fuel hf
      obtain ⟨f, rfl⟩ : ∃ f, fuel = f + 1 := ⟨fuel - 1, by omega⟩
      unfold wh fst1
      rw [h1 (n - (k + 1)) (by omega)]
      cases hc : out (n - (k + 1)) with
      | some r => rfl
      | none =>
        show wh step f (g (n - (k + 1) + 1)) = some ((fst1 out (n - (k + 1) + 1) k).getD fin)
        rw [show n - (k + 1) + 1 = n - k by omega]
        exact ih (by omega) f (by omega)
  intro fuel hf
  have := key n (Nat.le_refl n) fuel hf
  rwa [Nat.sub_self] at this
theorem wh_forB {σ ρ β : Type} {step : σ → Option (σ ⊕ ρ)} {f : ρ → Option β} (g : Nat → σ) (n : Nat) (r : ρ) (fuel : Nat) (hf : n < fuel) (h1 : ∀ i, i < n → step (g i) = some (.inl (g (i + 1)))) (h2 : step (g n) = some (.inr r)) : (wh step fuel (g 0)).bind f = f r := by
  rw [wh_for g n r h1 h2 fuel hf]
  rfl
theorem wh_findB {σ ρ β : Type} {step : σ → Option (σ ⊕ ρ)} {f : ρ → Option β} (g : Nat → σ) (n : Nat) (out : Nat → Option ρ) (fin : ρ) (fuel : Nat) (hf : n < fuel) (h1 : ∀ i, i < n → step (g i) = match out i with | some r => some (.inr r) | none => some (.inl (g (i + 1)))) (h2 : step (g n) = some (.inr fin)) : (wh step fuel (g 0)).bind f = f ((fst1 out 0 n).getD fin) := by
  rw [wh_find g n out fin h1 h2 fuel hf]
  rfl
