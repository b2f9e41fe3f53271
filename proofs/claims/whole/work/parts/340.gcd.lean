-- the greatest shared of two longs
def lQ (n : Nat) : Int64 := Int64.ofInt (n : Int)
theorem lQ_toInt {n : Nat} (h : n < 2 ^ 63) : (lQ n).toInt = n := by
  unfold lQ
  rw [Int64.toInt_ofInt, show Int64.size = 2 ^ 64 from rfl]
  apply Int.bmod_eq_of_le <;> omega
theorem lQ_of {a : Nat} (h : a < 2 ^ 31) : Int32.toInt64 (nI a) = lQ a := by
  apply Int64.toInt_inj.mp
  rw [L_toInt h, lQ_toInt (by omega)]
theorem lQ_mul (a b : Nat) : lQ a * lQ b = lQ (a * b) := by
  unfold lQ
  rw [← Int64.ofInt_mul, Int.natCast_mul]
theorem lQ_add (a b : Nat) : lQ a + lQ b = lQ (a + b) := by
  unfold lQ
  rw [← Int64.ofInt_add, Int.natCast_add]
theorem lQ_sub {a b : Nat} (h : b ≤ a) : lQ a - lQ b = lQ (a - b) := by
  have e : lQ a = lQ (a - b) + lQ b := by rw [lQ_add, Nat.sub_add_cancel h]
  rw [e, Int64.add_sub_cancel]
theorem lQ_mod {a b : Nat} (ha : a < 2 ^ 62) (hb : 1 ≤ b) (hb2 : b < 2 ^ 62) : lQ a - lQ a / lQ b * lQ b = lQ (a % b) := by
  have hdm : a / b * b + a % b = a := by rw [Nat.mul_comm]; exact Nat.div_add_mod a b
  have hle : a / b ≤ a := Nat.div_le_self a b
  have e1 : lQ a / lQ b = lQ (a / b) := by
    apply Int64.toInt_inj.mp
    rw [Int64.toInt_div, lQ_toInt (by omega), lQ_toInt (by omega), Int.tdiv_eq_ediv_of_nonneg (by omega), ← Int.natCast_ediv, lQ_toInt (by omega)]
    generalize a / b = x at hle
    apply Int.bmod_eq_of_le <;> omega
  rw [e1, lQ_mul, lQ_sub (by omega)]
  congr 1
  omega
theorem lQ_pos {a : Nat} (h : 1 ≤ a) (h2 : a < 2 ^ 62) : ¬ lg_cmp (lQ a) 0 ≤ 0 := by
  rw [lg_cmp_le, Int64.le_iff_toInt_le, lQ_toInt (by omega), show (0 : Int64).toInt = 0 by decide +kernel]
  omega
theorem lQ_ne {a : Nat} (h : 1 ≤ a) (h2 : a < 2 ^ 62) : ¬ lg_cmp (lQ a) 0 = 0 := by
  intro e
  exact lQ_pos h h2 (by rw [e]; decide)
theorem lQ_ck {α : Type} {a : Nat} (h : 1 ≤ a) (h2 : a < 2 ^ 62) (k : Option α) : ck0L (lQ a) k = k := by
  unfold ck0L
  rw [if_neg]
  intro e
  exact lQ_ne h h2 (by rw [e]; decide)
theorem wh_inr {σ ρ : Type} {f : σ → Option (σ ⊕ ρ)} {n : Nat} {s : σ} {r : ρ} (e : f s = some (.inr r)) : wh f (n + 1) s = some r := by
  rw [wh]
  rw [e]
theorem lQ_0 : lQ 0 = 0 := by decide +kernel
theorem gcd_M1 {x : Nat} : F_M_divisor_L6 (lQ x) (lQ 0) = some (Sum.inr (lQ x)) := by
  unfold F_M_divisor_L6
  rw [lQ_0, if_pos (by decide +kernel)]
theorem gcd_M2 {x y : Nat} (hx : x < 2 ^ 62) (hy : 1 ≤ y) (hy2 : y < 2 ^ 62) : F_M_divisor_L6 (lQ x) (lQ y) = some (Sum.inl (lQ y, lQ (x % y))) := by
  unfold F_M_divisor_L6
  rw [if_neg (lQ_ne hy hy2), lQ_ck hy hy2, lQ_mod hx hy hy2]
theorem gcd_C1 {x c : Nat} (hc : c < 200) : F_Frc_greatestShared_L9 (lQ x) (lQ 0) (nI c) = some (Sum.inr (lQ x)) := by
  unfold F_Frc_greatestShared_L9
  rw [lQ_0, if_neg (nleC 200 200 hc (by omega) rfl), if_pos (by decide +kernel)]
theorem gcd_C2 {x y c : Nat} (hc : c < 200) (hx : x < 2 ^ 62) (hy : 1 ≤ y) (hy2 : y < 2 ^ 62) : F_Frc_greatestShared_L9 (lQ x) (lQ y) (nI c) = some (Sum.inl (lQ y, lQ (x % y), nI (c + 1))) := by
  unfold F_Frc_greatestShared_L9
  rw [if_neg (nleC 200 200 hc (by omega) rfl), if_neg (lQ_ne hy hy2), lQ_ck hy hy2, lQ_mod hx hy hy2, nI_1]
theorem gcd_k : ∀ (k x y : Nat), x < 2 ^ 62 → y < 2 ^ k → y < 2 ^ 62 → 1 ≤ x + y → ∃ g, 1 ≤ g ∧ g < 2 ^ 62 ∧ (∀ N, wh (fun (s : (Int64) × (Int64)) => F_M_divisor_L6 s.1 s.2) (2 * k + 1 + N) (lQ x, lQ y) = some (lQ g)) ∧ (∀ N c, c + 2 * k + 1 ≤ 200 → wh (fun (s : (Int64) × (Int64) × (Int32)) => F_Frc_greatestShared_L9 s.1 s.2.1 s.2.2) (2 * k + 1 + N) (lQ x, lQ y, nI c) = some (lQ g))
  | k, x, 0, hx, _, _, h1 => by
    refine ⟨x, by omega, hx, fun N => ?_, fun N c hc => ?_⟩
    · rw [show 2 * k + 1 + N = (2 * k + N) + 1 by omega]
      exact wh_inr (f := fun (s : (Int64) × (Int64)) => F_M_divisor_L6 s.1 s.2) (s := (lQ x, lQ 0)) gcd_M1
    · rw [show 2 * k + 1 + N = (2 * k + N) + 1 by omega]
      exact wh_inr (f := fun (s : (Int64) × (Int64) × (Int32)) => F_Frc_greatestShared_L9 s.1 s.2.1 s.2.2) (s := (lQ x, lQ 0, nI c)) (gcd_C1 (by omega))
  | 0, x, y + 1, hx, hy, _, h1 => absurd hy (by omega)
  | k + 1, x, y + 1, hx, hy, hy2, h1 => by
    have hm : x % (y + 1) < y + 1 := Nat.mod_lt _ (by omega)
    generalize hr : x % (y + 1) = r at hm
    by_cases r0 : r = 0
    · subst r0
      refine ⟨y + 1, by omega, hy2, fun N => ?_, fun N c hc => ?_⟩
      · rw [show 2 * (k + 1) + 1 + N = (2 * k + 1 + N) + 1 + 1 by omega]
        have e := gcd_M2 (x := x) (y := y + 1) hx (by omega) hy2
        rw [hr] at e
        refine (wh_inl (f := fun (s : (Int64) × (Int64)) => F_M_divisor_L6 s.1 s.2) (s := (lQ x, lQ (y + 1))) e).trans ?_
        exact wh_inr (f := fun (s : (Int64) × (Int64)) => F_M_divisor_L6 s.1 s.2) (s := (lQ (y + 1), lQ 0)) gcd_M1
      · rw [show 2 * (k + 1) + 1 + N = (2 * k + 1 + N) + 1 + 1 by omega]
        have e := gcd_C2 (x := x) (y := y + 1) (c := c) (by omega) hx (by omega) hy2
        rw [hr] at e
        refine (wh_inl (f := fun (s : (Int64) × (Int64) × (Int32)) => F_Frc_greatestShared_L9 s.1 s.2.1 s.2.2) (s := (lQ x, lQ (y + 1), nI c)) e).trans ?_
        exact wh_inr (f := fun (s : (Int64) × (Int64) × (Int32)) => F_Frc_greatestShared_L9 s.1 s.2.1 s.2.2) (s := (lQ (y + 1), lQ 0, nI (c + 1))) (gcd_C1 (by omega))
    · have hm2 : (y + 1) % r < r := Nat.mod_lt _ (by omega)
      have hm3 : (y + 1) % r ≤ y + 1 - r := by
        rw [Nat.mod_eq_sub_mod (by omega)]
        exact Nat.mod_le _ _
      have hp : 2 ^ (k + 1) = 2 * 2 ^ k := by rw [Nat.pow_succ, Nat.mul_comm]
      have hs : (y + 1) % r < 2 ^ k := by omega
      obtain ⟨g, g1, g2, g3, g4⟩ := gcd_k k r ((y + 1) % r) (by omega) hs (by omega) (by omega)
      refine ⟨g, g1, g2, fun N => ?_, fun N c hc => ?_⟩
      · rw [show 2 * (k + 1) + 1 + N = (2 * k + 1 + N) + 1 + 1 by omega]
        have e := gcd_M2 (x := x) (y := y + 1) hx (by omega) hy2
        rw [hr] at e
        refine (wh_inl (f := fun (s : (Int64) × (Int64)) => F_M_divisor_L6 s.1 s.2) (s := (lQ x, lQ (y + 1))) e).trans ?_
        refine (wh_inl (f := fun (s : (Int64) × (Int64)) => F_M_divisor_L6 s.1 s.2) (s := (lQ (y + 1), lQ r)) (gcd_M2 (x := y + 1) (y := r) hy2 (by omega) (by omega))).trans ?_
        exact g3 N
      · rw [show 2 * (k + 1) + 1 + N = (2 * k + 1 + N) + 1 + 1 by omega]
        have e := gcd_C2 (x := x) (y := y + 1) (c := c) (by omega) hx (by omega) hy2
        rw [hr] at e
        refine (wh_inl (f := fun (s : (Int64) × (Int64) × (Int32)) => F_Frc_greatestShared_L9 s.1 s.2.1 s.2.2) (s := (lQ x, lQ (y + 1), nI c)) e).trans ?_
        refine (wh_inl (f := fun (s : (Int64) × (Int64) × (Int32)) => F_Frc_greatestShared_L9 s.1 s.2.1 s.2.2) (s := (lQ (y + 1), lQ r, nI (c + 1))) (gcd_C2 (x := y + 1) (y := r) (c := c + 1) (by omega) hy2 (by omega) (by omega))).trans ?_
        exact g4 N (c + 1 + 1) (by omega)
theorem gcd_N {a b : Nat} (ha : a < 2 ^ 62) (hb : 1 ≤ b) (hb2 : b < 2 ^ 62) : ∃ g, 1 ≤ g ∧ g < 2 ^ 62 ∧ F_M_divisor (lQ a) (lQ b) = some (lQ g) ∧ F_Frc_greatestShared (lQ a) (lQ b) = some (lQ g) := by
  obtain ⟨g, g1, g2, g3, g4⟩ := gcd_k 62 a b ha hb2 hb2 (by omega)
  refine ⟨g, g1, g2, ?_, ?_⟩
  · unfold F_M_divisor
    rw [g3 275]
    rfl
  · unfold F_Frc_greatestShared
    rw [show (0 : Int32) = nI 0 from rfl, g4 275 0 (by omega)]
    rfl
theorem fracL {v a b : Nat} (hv : v < 2) (ha : a < 2 ^ 62) (hb : b < 2 ^ 62) (h0 : b = 0 → a = 0) : ∃ q r, F_Frc_become (lQ a) (lQ b) = some q ∧ F_Frc_told q.1 q.2 (nI v) = some r ∧ F_M_partOf (lQ a) (lQ b) (nI v) = some r := by
  by_cases a0 : a = 0
  · subst a0
    refine ⟨(0, 1), ?_⟩
    rcases (show v = 0 ∨ v = 1 by omega) with rfl | rfl
    · exact ⟨0, rfl, rfl, rfl⟩
    · exact ⟨1, rfl, rfl, rfl⟩
  · have hb1 : 1 ≤ b := by omega
    have ha1 : 1 ≤ a := by omega
    obtain ⟨g, g1, g2, g3, g4⟩ := gcd_N ha hb1 hb
    have eB : F_Frc_become (lQ a) (lQ b) = some (lQ a / lQ g, lQ b / lQ g) := by
      unfold F_Frc_become
      rw [if_neg (lQ_pos ha1 ha), if_neg (lQ_pos hb1 hb), g4, Option.bind_some, if_neg (lQ_pos g1 g2), lQ_ck g1 g2, lQ_ck g1 g2]
    rcases (show v = 0 ∨ v = 1 by omega) with rfl | rfl
    · refine ⟨_, lQ a / lQ g, eB, rfl, ?_⟩
      unfold F_M_partOf
      rw [if_neg (lQ_ne ha1 ha), g3, Option.bind_some, if_pos (show nI 0 = 0 from rfl), lQ_ck g1 g2]
    · refine ⟨_, lQ b / lQ g, eB, rfl, ?_⟩
      unfold F_M_partOf
      rw [if_neg (lQ_ne ha1 ha), g3, Option.bind_some, if_neg (show ¬ nI 1 = 0 by decide), lQ_ck g1 g2]
