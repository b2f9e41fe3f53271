-- halls: letters, digits
def dig (N : Nat) (L : Nat → Nat) (p : Nat) : Bool := decide (p < N) && (decide (48 ≤ L p) && decide (L p ≤ 57))
theorem dig_y {N p : Nat} {L : Nat → Nat} (h : dig N L p = true) : p < N ∧ 48 ≤ L p ∧ L p ≤ 57 := by
  unfold dig at h
  rw [Bool.and_eq_true, Bool.and_eq_true] at h
  exact ⟨of_decide_eq_true h.1, of_decide_eq_true h.2.1, of_decide_eq_true h.2.2⟩
theorem dig_n {N p : Nat} {L : Nat → Nat} (h : dig N L p = false) : ¬ (p < N ∧ 48 ≤ L p ∧ L p ≤ 57) := by
  intro c
  unfold dig at h
  rw [decide_eq_true c.1, decide_eq_true c.2.1, decide_eq_true c.2.2] at h
  cases h
def zd (N : Nat) (L : Nat → Nat) : Nat → Nat → Nat
  | _, 0 => 0
  | p, n + 1 => if dig N L p = true then zd N L (p + 1) n + 1 else 0
theorem zd_lt {N : Nat} {L : Nat → Nat} : ∀ n p i, i < zd N L p n → dig N L (p + i) = true
  | 0, p, i, h => absurd h (Nat.not_lt_zero i)
  | n + 1, p, i, h => by
    rw [zd] at h
    by_cases c : dig N L p = true
    · rw [if_pos c] at h
      cases i with
      | zero => exact c
      | succ i =>
        have := zd_lt (N := N) (L := L) n (p + 1) i (by omega)
        rw [show p + (i + 1) = p + 1 + i by omega]
        exact this
    · rw [if_neg c] at h
      exact absurd h (Nat.not_lt_zero i)
theorem zd_at {N : Nat} {L : Nat → Nat} : ∀ n p, zd N L p n < n → dig N L (p + zd N L p n) = false
  | 0, p, h => absurd h (Nat.not_lt_zero _)
  | n + 1, p, h => by
    rw [zd] at h ⊢
    by_cases c : dig N L p = true
    · rw [if_pos c] at h ⊢
      have := zd_at (N := N) (L := L) n (p + 1) (by omega)
      rw [show p + (zd N L (p + 1) n + 1) = p + 1 + zd N L (p + 1) n by omega]
      exact this
    · rw [if_neg c]
      exact Bool.eq_false_iff.mpr c
theorem zd_N {N p : Nat} {L : Nat → Nat} (n : Nat) (hp : p ≤ N) : p + zd N L p n ≤ N := by
  by_cases c : zd N L p n = 0
  · omega
  · have h := (dig_y (zd_lt (N := N) (L := L) n p (zd N L p n - 1) (by omega))).1
    omega
def dgb (c : Nat) : Nat := if c = 100 then 3 else if c = 102 then 4 else if c = 112 then 2 else if c = 115 then 1 else if c = 116 then 2 else if c = 119 then 2 else 0
theorem dgb_fin : ∀ c : Fin 256, F_Let_digitsBehind (nI c.val) = some (if dgb c.val = 0 then -1 else nI (dgb c.val)) ∧ F_M_isLetter (nI c.val) = some (if dgb c.val = 0 then 0 else 1) ∧ dgb c.val ≤ 4 := by decide +kernel
def gdS (N : Nat) (L : Nat → Nat) (p : Nat) : Bool := decide (p < N) && (decide (dgb (L p) ≠ 0) && (decide (dgb (L p) ≤ zd N L (p + 1) 5) && (decide (p + 1 + dgb (L p) < N) && decide (L (p + 1 + dgb (L p)) = 59))))
theorem gdS_y {N p : Nat} {L : Nat → Nat} (h : gdS N L p = true) : p < N ∧ dgb (L p) ≠ 0 ∧ dgb (L p) ≤ zd N L (p + 1) 5 ∧ p + 1 + dgb (L p) < N ∧ L (p + 1 + dgb (L p)) = 59 := by
  unfold gdS at h
  rw [Bool.and_eq_true, Bool.and_eq_true, Bool.and_eq_true, Bool.and_eq_true] at h
  exact ⟨of_decide_eq_true h.1, of_decide_eq_true h.2.1, of_decide_eq_true h.2.2.1, of_decide_eq_true h.2.2.2.1, of_decide_eq_true h.2.2.2.2⟩
theorem gdS_n {N p : Nat} {L : Nat → Nat} (h : gdS N L p = false) (h1 : p < N) (h2 : dgb (L p) ≠ 0) (h3 : dgb (L p) ≤ zd N L (p + 1) 5) (h4 : p + 1 + dgb (L p) < N) (h5 : L (p + 1 + dgb (L p)) = 59) : False := by
  unfold gdS at h
  rw [decide_eq_true h1, decide_eq_true h2, decide_eq_true h3, decide_eq_true h4, decide_eq_true h5] at h
  cases h
def psN (L : Nat → Nat) : Nat → Nat
  | 0 => 0
  | j + 1 => psN L j + (dgb (L (psN L j)) + 2)
theorem ps_N {N : Nat} {L : Nat → Nat} : ∀ M, (∀ j, j < M → gdS N L (psN L j) = true) → psN L M ≤ N ∧ 3 * M ≤ psN L M
  | 0, _ => ⟨Nat.zero_le _, Nat.zero_le _⟩
  | M + 1, h => by
    obtain ⟨h1, h2, h3, h4, h5⟩ := gdS_y (h M (by omega))
    obtain ⟨i1, i2⟩ := ps_N M (fun j hj => h j (by omega))
    rw [psN]
    omega
theorem pout {N : Nat} {L : Nat → Nat} : ∀ f M, N - psN L M ≤ f → (∀ j, j < M → gdS N L (psN L j) = true) → ∃ M', (∀ j, j < M' → gdS N L (psN L j) = true) ∧ ((1 ≤ M' ∧ psN L M' = N) ∨ (gdS N L (psN L M') = false ∧ (psN L M' < N ∨ N = 0)))
  | 0, M, hf, h => by
    obtain ⟨i1, i2⟩ := ps_N M h
    by_cases c : M = 0
    · subst c
      have e0 : psN L 0 = 0 := rfl
      refine ⟨0, h, Or.inr ⟨?_, Or.inr (by omega)⟩⟩
      cases hg : gdS N L (psN L 0)
      · rfl
      · have := (gdS_y hg).1
        omega
    · exact ⟨M, h, Or.inl ⟨by omega, by omega⟩⟩
  | f + 1, M, hf, h => by
    obtain ⟨i1, i2⟩ := ps_N M h
    by_cases c : psN L M < N
    · cases hg : gdS N L (psN L M)
      · exact ⟨M, h, Or.inr ⟨hg, Or.inl c⟩⟩
      · refine pout f (M + 1) ?_ (fun j hj => ?_)
        · rw [psN]
          omega
        · by_cases e : j = M
          · rw [e]; exact hg
          · exact h j (by omega)
    · exact pout f M (by omega) h
theorem wh_stp {σ ρ : Type} {f : σ → Option (σ ⊕ ρ)} (g : Nat → σ) : ∀ k n, (∀ i, i < k → f (g i) = some (.inl (g (i + 1)))) → wh f (n + k) (g 0) = wh f n (g k)
  | 0, _, _ => rfl
  | k + 1, n, h => by
    rw [show n + (k + 1) = (n + 1) + k by omega, wh_stp g k (n + 1) (fun i hi => h i (by omega))]
    exact wh_inl (h k (by omega))
def la (N : Nat) (lt : Nat → Int32) (p : Nat) : Int32 := if p < N then lt p else 0
theorem C_at {N p : Nat} (hN : N ≤ 96) (hp : p < 1000) (lt : Nat → Int32) : F_Let_letterAt (nI N) lt (nI p) = some (la N lt p) := by
  unfold F_Let_letterAt la
  rw [if_neg (nI_ge0 (by omega))]
  by_cases c : p < N
  · rw [if_neg (nI_leN c (by omega)), if_neg (nleC 96 96 (show p < 96 by omega) (by omega) rfl), ck_nI _ (show p < 96 by omega) (by omega), nI_clamp (by omega), if_pos c]
  · rw [if_pos (nI_le (by omega) (by omega)), if_neg c]
def cnum (N : Nat) (lt : Nat → Int32) (p : Nat) : Nat → Int32
  | 0 => 0
  | i + 1 => cnum N lt p i * 10 + la N lt (p + i) - 48
theorem C_number {N p d : Nat} (hN : N ≤ 96) (hp : p < 900) (hd : d ≤ 3) (lt : Nat → Int32) : F_Let_number (nI N) lt (nI p) (nI d) = some (cnum N lt p d) := by
  have e : wh (fun (s : (Int32) × (Int32)) => F_Let_number_L5 (nI N) lt (nI p) (nI d) s.1 s.2) 400 (cnum N lt p 0, (0 : Int32)) = some (cnum N lt p d) := by
    refine wh_for (fun i => (cnum N lt p i, nI i)) d (cnum N lt p d) (fun i hi => ?_) ?_ 400 (by omega)
    · show F_Let_number_L5 (nI N) lt (nI p) (nI d) (cnum N lt p i) (nI i) = some (Sum.inl (cnum N lt p (i + 1), nI (i + 1)))
      unfold F_Let_number_L5
      rw [if_neg (nI_leN hi (by omega)), nI_addS (by omega), C_at hN (by omega), Option.bind_some, nI_1, cnum]
    · show F_Let_number_L5 (nI N) lt (nI p) (nI d) _ (nI d) = _
      unfold F_Let_number_L5
      rw [if_pos (nI_le (Nat.le_refl d) (by omega))]
  unfold F_Let_number
  have e' : wh (fun (s : (Int32) × (Int32)) => F_Let_number_L5 (nI N) lt (nI p) (nI d) s.1 s.2) 400 ((0 : Int32), (0 : Int32)) = some (cnum N lt p d) := e
  rw [e']
  rfl
def numN (L : Nat → Nat) (p : Nat) : Nat → Nat
  | 0 => 0
  | i + 1 => numN L p i * 10 + (L (p + i) - 48)
theorem num_le {N p : Nat} {L : Nat → Nat} : ∀ d, (∀ i, i < d → dig N L (p + i) = true) → numN L p d < 10 ^ d
  | 0, _ => by
    rw [numN]
    omega
  | d + 1, h => by
    have ih := num_le d (fun i hi => h i (by omega))
    have h1 := dig_y (h d (by omega))
    rw [numN, Nat.pow_succ]
    omega
theorem dig_nI {a x : Nat} (ha : a ≤ 1000) (h1 : 48 ≤ x) (h2 : x ≤ 57) : nI a * 10 + nI x - 48 = nI (a * 10 + (x - 48)) ∧ (10 : Int32) * nI a + nI x - 48 = nI (a * 10 + (x - 48)) := by
  have e1 : nI a * 10 = nI (a * 10) := by
    apply Int32.toInt_inj.mp
    rw [Int32.toInt_mul, nI_toInt (by omega), show (10 : Int32).toInt = 10 by decide +kernel, nI_toInt (by omega), show ((a : Int) * 10).bmod (2 ^ 32) = (a : Int) * 10 by apply Int.bmod_eq_of_le <;> omega]
    omega
  have e2 : nI a * 10 + nI x - 48 = nI (a * 10 + (x - 48)) := by
    rw [e1, nI_addS (by omega), show (48 : Int32) = nI 48 from rfl, nI_subS (by omega) (by omega)]
    congr 1
    omega
  exact ⟨e2, by rw [Int32.mul_comm]; exact e2⟩
theorem cnum_num {N p d : Nat} {L : Nat → Nat} {lt : Nat → Int32} (hL : ∀ p, p < N → lt p = nI (L p) ∧ L p ≤ 255) (hd : d ≤ 3) (h : ∀ i, i < d → dig N L (p + i) = true) : cnum N lt p d = nI (numN L p d) := by
  induction d with
  | zero => rfl
  | succ d ih =>
    have h1 := dig_y (h d (by omega))
    have h2 := num_le d (fun i hi => h i (by omega))
    have h3 : 10 ^ d ≤ 10 ^ 2 := Nat.pow_le_pow_right (by omega) (by omega)
    rw [cnum, numN, ih (by omega) (fun i hi => h i (by omega)), la, if_pos h1.1, (hL _ h1.1).1, (dig_nI (by omega) h1.2.1 h1.2.2).1]
def rb (z i : Nat) : Int32 := if i ≤ z then 0 else 1
theorem M_here1 {N a : Nat} (hN : N ≤ 96) (ha : a < N) (lt : Nat → Int32) : F_M_here (nI a) (nI N) lt = some (lt a) := by
  unfold F_M_here
  rw [if_neg (nI_leN ha (by omega)), ck_nI _ (show a < 96 by omega) (by omega), nI_clamp (by omega)]
theorem M_here0 {N a : Nat} (hN : N ≤ 96) (ha : N ≤ a) (ha2 : a < 1000) (lt : Nat → Int32) : F_M_here (nI a) (nI N) lt = some (-1) := by
  unfold F_M_here
  rw [if_pos (nI_le ha (by omega))]
theorem M_isdig {N a : Nat} {L : Nat → Nat} {lt : Nat → Int32} (hN : N ≤ 96) (hL : ∀ p, p < N → lt p = nI (L p) ∧ L p ≤ 255) (ha : a < 1000) : ∃ h, F_M_here (nI a) (nI N) lt = some h ∧ F_M_in (Int32.toInt64 h) 48 57 = some (if dig N L a = true then 1 else 0) := by
  by_cases c : a < N
  · obtain ⟨l1, l2⟩ := hL a c
    refine ⟨lt a, M_here1 hN c lt, ?_⟩
    rw [l1]
    cases hd : dig N L a
    · refine M_in_n (lo := nI 48) (hi := nI 57) rfl rfl ?_
      have := dig_n hd
      rw [i32_lt, i32_lt, nI_toInt (by omega), nI_toInt (by omega), nI_toInt (by omega)]
      omega
    · have := dig_y hd
      exact M_in_y (lo := nI 48) (hi := nI 57) rfl rfl (nI_le (by omega) (by omega)) (nI_le (by omega) (by omega))
  · refine ⟨-1, M_here0 hN (by omega) ha lt, ?_⟩
    cases hd : dig N L a
    · exact M_in_n (lo := nI 48) (hi := nI 57) rfl rfl (Or.inl (by decide))
    · have := dig_y hd
      omega
theorem M_rd {N p z i d : Nat} {L : Nat → Nat} {lt : Nat → Int32} (hN : N ≤ 96) (hL : ∀ p, p < N → lt p = nI (L p) ∧ L p ≤ 255) (hp : p ≤ N) (hz : z = zd N L p 5) (hd : d ≤ 3) (hid : i + d ≤ 4) : ∃ v, F_M_readDigits (nI (p + min i z)) (rb z i) (nI N) lt (nI d) = some (v, nI (p + min (i + d) z), rb z (i + d)) ∧ (i + d ≤ z → v = nI (numN L (p + i) d)) := by
  have hzN := zd_N (L := L) 5 hp
  refine ⟨if i + d ≤ z then nI (numN L (p + i) d) else 0, ?_, fun h => if_pos h⟩
  have e : wh (fun (s : (Int32) × (Int32) × (Int32) × (Int32)) => F_M_readDigits_L4 (nI N) lt (nI d) s.1 s.2.1 s.2.2.1 s.2.2.2) 400 ((if i + 0 ≤ z then nI (numN L (p + i) 0) else 0), (0 : Int32), nI (p + min (i + 0) z), rb z (i + 0)) = some ((if i + d ≤ z then nI (numN L (p + i) d) else 0), nI (p + min (i + d) z), rb z (i + d)) := by
    refine wh_for (fun k => ((if i + k ≤ z then nI (numN L (p + i) k) else 0), nI k, nI (p + min (i + k) z), rb z (i + k))) d ((if i + d ≤ z then nI (numN L (p + i) d) else 0), nI (p + min (i + d) z), rb z (i + d)) (fun k hk => ?_) ?_ 400 (by omega)
    · show F_M_readDigits_L4 (nI N) lt (nI d) (if i + k ≤ z then nI (numN L (p + i) k) else 0) (nI k) (nI (p + min (i + k) z)) (rb z (i + k)) = some (Sum.inl ((if i + (k + 1) ≤ z then nI (numN L (p + i) (k + 1)) else 0), nI (k + 1), nI (p + min (i + (k + 1)) z), rb z (i + (k + 1))))
      unfold F_M_readDigits_L4 F_M_readDigits_J34_10 F_M_readDigits_J39_4 F_M_readDigits_J70_7 ckz
      rw [if_neg (nI_leN hk (by omega))]
      by_cases c : i + k ≤ z
      · have e1 : rb z (i + k) = 0 := if_pos c
        obtain ⟨h, m1, m2⟩ := M_isdig hN hL (a := p + (i + k)) (by omega)
        rw [e1, if_pos rfl, show min (i + k) z = i + k by omega, m1, Option.bind_some, m2, Option.bind_some, if_pos c]
        by_cases c2 : i + k < z
        · have hdg := zd_lt (N := N) (L := L) 5 p (i + k) (by omega)
          have hy := dig_y hdg
          have hnum := num_le (N := N) (L := L) (p := p + i) k (fun t ht => by
            rw [show p + i + t = p + (i + t) by omega]
            exact zd_lt (N := N) (L := L) 5 p (i + t) (by omega))
          have h3 : 10 ^ k ≤ 10 ^ 2 := Nat.pow_le_pow_right (by omega) (by omega)
          rw [hdg, if_neg (by decide), if_pos (Or.inl rfl), if_pos rfl, if_pos rfl, ck_nI _ (show p + (i + k) < 96 by omega) (by omega), nI_clamp (by omega), (hL _ hy.1).1, (dig_nI (by omega) hy.2.1 hy.2.2).2, nI_1, nI_1, if_pos (show i + (k + 1) ≤ z by omega), show min (i + (k + 1)) z = i + k + 1 by omega, rb, if_pos (show i + (k + 1) ≤ z by omega), numN, show p + i + k = p + (i + k) by omega]
          rfl
        · have hdg := zd_at (N := N) (L := L) 5 p (by omega)
          rw [← hz, show z = i + k by omega] at hdg
          rw [hdg, if_pos (by decide), if_pos (Or.inr rfl), if_neg (by decide), if_neg (by decide), nI_1, Int32.add_zero, if_neg (show ¬ i + (k + 1) ≤ z by omega), show min (i + (k + 1)) z = i + k by omega, rb, if_neg (show ¬ i + (k + 1) ≤ z by omega)]
      · have e1 : rb z (i + k) = 1 := if_neg c
        rw [e1, if_neg (by decide), if_pos (Or.inr rfl), if_neg (by decide), if_neg (by decide), nI_1, Int32.add_zero, if_neg (show ¬ i + (k + 1) ≤ z by omega), show min (i + (k + 1)) z = min (i + k) z by omega, rb, if_neg (show ¬ i + (k + 1) ≤ z by omega)]
    · show F_M_readDigits_L4 (nI N) lt (nI d) _ (nI d) _ _ = _
      unfold F_M_readDigits_L4
      rw [if_pos (nI_le (Nat.le_refl d) (by omega))]
  have e' : wh (fun (s : (Int32) × (Int32) × (Int32) × (Int32)) => F_M_readDigits_L4 (nI N) lt (nI d) s.1 s.2.1 s.2.2.1 s.2.2.2) 400 ((0 : Int32), (0 : Int32), nI (p + min i z), rb z i) = some ((if i + d ≤ z then nI (numN L (p + i) d) else 0), nI (p + min (i + d) z), rb z (i + d)) := by
    rw [← e]
    congr 2
    split <;> rfl
  unfold F_M_readDigits
  rw [e', Option.bind_some]
