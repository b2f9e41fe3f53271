-- the shared divisor, after one step
theorem gcd_fin : ∀ (b : Fin 9) (r : Fin 9), 1 ≤ b.val → r.val < b.val → ∃ g : Fin 9, 1 ≤ g.val ∧ wh (fun (s : (Int64) × (Int64)) => F_M_divisor_L6 s.1 s.2) 399 (Int32.toInt64 (nI b.val), Int32.toInt64 (nI r.val)) = some (Int32.toInt64 (nI g.val)) ∧ wh (fun (s : (Int64) × (Int64) × (Int32)) => F_Frc_greatestShared_L9 s.1 s.2.1 s.2.2) 399 (Int32.toInt64 (nI b.val), Int32.toInt64 (nI r.val), 1) = some (Int32.toInt64 (nI g.val)) := by decide +kernel
theorem L_toInt {a : Nat} (h : a < 2 ^ 31) : (Int32.toInt64 (nI a)).toInt = a := by rw [Int32.toInt_toInt64, nI_toInt h]
theorem L_mod {a b : Nat} (ha : a < 2 ^ 31) (hb : 1 ≤ b) (hb2 : b < 2 ^ 31) : Int32.toInt64 (nI a) - Int32.toInt64 (nI a) / Int32.toInt64 (nI b) * Int32.toInt64 (nI b) = Int32.toInt64 (nI (a % b)) := by
  have hm : a % b < b := Nat.mod_lt _ (by omega)
  have hdm : a / b * b + a % b = a := by rw [Nat.mul_comm]; exact Nat.div_add_mod a b
  have hle : a / b ≤ a := Nat.div_le_self a b
  apply Int64.toInt_inj.mp
  have e1 : (Int32.toInt64 (nI a) / Int32.toInt64 (nI b)).toInt = ((a / b : Nat) : Int) := by
    rw [Int64.toInt_div, L_toInt ha, L_toInt hb2, Int.tdiv_eq_ediv_of_nonneg (by omega), ← Int.natCast_ediv]
    generalize a / b = x at hle
    apply Int.bmod_eq_of_le <;> omega
  generalize a % b = r at hm hdm ⊢
  generalize a / b = x at hle hdm e1
  have e2 : (Int32.toInt64 (nI a) / Int32.toInt64 (nI b) * Int32.toInt64 (nI b)).toInt = ((x * b : Nat) : Int) := by
    rw [Int64.toInt_mul, e1, L_toInt hb2, ← Int.natCast_mul]
    generalize x * b = z at hdm
    apply Int.bmod_eq_of_le <;> omega
  rw [Int64.toInt_sub, e2, L_toInt ha, L_toInt (show r < 2 ^ 31 by omega)]
  generalize x * b = z at hdm
  rw [show ((a : Int) - (z : Int)).bmod (2 ^ 64) = (a : Int) - (z : Int) by apply Int.bmod_eq_of_le <;> omega]
  omega
