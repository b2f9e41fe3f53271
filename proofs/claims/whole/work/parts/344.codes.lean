-- the count of a long's bits
def lsr (x : Int64) (k : Int32) : Int64 := (Int64.toUInt64 x >>> ((Int32.toInt64 k).toUInt64 &&& Int64.toUInt64 63)).toInt64
def lb1 (x : Int64) : Int64 := x - ((lsr x 1) &&& (6148914691236517205 : Int64))
def lb2 (x : Int64) : Int64 := (x &&& (3689348814741910323 : Int64)) + ((lsr x 2) &&& (3689348814741910323 : Int64))
def lb3 (x : Int64) : Int64 := (x + lsr x 4) &&& (1085102592571150095 : Int64)
def lb4 (x : Int64) : Int64 := x + lsr x 8
def lb5 (x : Int64) : Int64 := x + lsr x 16
def lb6 (x : Int64) : Int64 := x + lsr x 32
theorem lb_all (x : Int64) : F_Jlong_bitCount x = some ((Int64.toInt32 (lb6 (lb5 (lb4 (lb3 (lb2 (lb1 x))))))) &&& 127) := rfl
def lbN (x : Int64) : Nat := x.toBitVec.toNat
theorem lbN_lt (x : Int64) : lbN x < 2 ^ 64 := x.toBitVec.isLt
theorem lsr_N (x : Int64) (k : Int32) (j : Nat) (hk : (((Int32.toInt64 k).toUInt64 &&& Int64.toUInt64 63)).toNat % 64 = j) : lbN (lsr x k) = lbN x / 2 ^ j := by
  have e : lbN (lsr x k) = (Int64.toUInt64 x >>> ((Int32.toInt64 k).toUInt64 &&& Int64.toUInt64 63)).toNat := rfl
  rw [e, UInt64.toNat_shiftRight, hk, Nat.shiftRight_eq_div_pow]
  rfl
theorem and_N (x y : Int64) : lbN (x &&& y) = lbN x &&& lbN y := by
  unfold lbN
  rw [Int64.toBitVec_and, BitVec.toNat_and]
theorem add_N (x y : Int64) (h : lbN x + lbN y < 2 ^ 64) : lbN (x + y) = lbN x + lbN y := by
  unfold lbN at *
  rw [Int64.toBitVec_add, BitVec.toNat_add, Nat.mod_eq_of_lt h]
theorem sub_N (x y : Int64) (h : lbN y ≤ lbN x) : lbN (x - y) = lbN x - lbN y := by
  have h2 := lbN_lt x
  unfold lbN at *
  rw [Int64.toBitVec_sub, BitVec.toNat_sub]
  omega
-- byte by byte
def byt (f : Nat → Nat) : Nat → Nat → Nat
  | 0, _ => 0
  | k + 1, n => f (n % 256) + 256 * byt f k (n / 256)
theorem byt_lt {f : Nat → Nat} (hf : ∀ c, c < 256 → f c < 256) : ∀ k n, byt f k n < 256 ^ k
  | 0, _ => by
    rw [byt]
    omega
  | k + 1, n => by
    have h1 := hf (n % 256) (Nat.mod_lt _ (by omega))
    have h2 := byt_lt hf k (n / 256)
    rw [byt, Nat.pow_succ]
    omega
theorem byt_byt {f g : Nat → Nat} (hf : ∀ c, c < 256 → f c < 256) : ∀ k n, byt g k (byt f k n) = byt (fun c => g (f c)) k n
  | 0, _ => rfl
  | k + 1, n => by
    have h1 := hf (n % 256) (Nat.mod_lt _ (by omega))
    rw [byt, byt, byt, show (f (n % 256) + 256 * byt f k (n / 256)) % 256 = f (n % 256) by omega, show (f (n % 256) + 256 * byt f k (n / 256)) / 256 = byt f k (n / 256) by omega, byt_byt hf k]
theorem byt_id : ∀ k n, n < 256 ^ k → byt (fun c => c) k n = n
  | 0, n, h => by
    rw [byt]
    rw [Nat.pow_zero] at h
    omega
  | k + 1, n, h => by
    rw [Nat.pow_succ] at h
    rw [byt, byt_id k _ (by omega)]
    omega
theorem and_byt (a b : Nat) : a &&& b = (a % 256 &&& b % 256) + 256 * (a / 256 &&& b / 256) := by
  have h1 : (a &&& b) % 2 ^ 8 = a % 2 ^ 8 &&& b % 2 ^ 8 := Nat.and_mod_two_pow
  have h2 : (a &&& b) / 2 ^ 8 = a / 2 ^ 8 &&& b / 2 ^ 8 := Nat.and_div_two_pow
  have h3 := Nat.div_add_mod (a &&& b) 256
  have h4 : (a &&& b) % 256 = a % 256 &&& b % 256 := h1
  have h5 : (a &&& b) / 256 = a / 256 &&& b / 256 := h2
  omega
-- a mask made of the same byte
def msk (m : Nat) : Nat → Nat
  | 0 => 0
  | k + 1 => m + 256 * msk m k
theorem shm {m d : Nat} (hm : m < 256) (hd : 1 ≤ d) (hdd : d ∣ 256) (hc : ∀ c e, c < 256 → e < d → ((c / d + 256 / d * e) % 256 &&& m) = (c / d &&& m)) : ∀ k n, n / d &&& msk m k = byt (fun c => c / d &&& m) k n
  | 0, n => Nat.and_zero _
  | k + 1, n => by
    obtain ⟨q, hq⟩ := hdd
    have e1 : 256 / d = q := by rw [hq, Nat.mul_div_cancel_left _ (by omega)]
    have e2 : n / d = n % 256 / d + q * (n / 256) := by
      have := Nat.div_add_mod n 256
      have e3 : n = n % 256 + d * (q * (n / 256)) := by
        rw [← Nat.mul_assoc, ← hq]
        omega
      rw (occs := .pos [1]) [e3]
      rw [Nat.add_mul_div_left _ _ (by omega)]
    have e4 : n / d / 256 = n / 256 / d := by rw [Nat.div_div_eq_div_mul, Nat.div_div_eq_div_mul, Nat.mul_comm]
    have e5 : n / d % 256 &&& m = n % 256 / d &&& m := by
      have h1 := hc (n % 256) (n / 256 % d) (Nat.mod_lt _ (by omega)) (Nat.mod_lt _ (by omega))
      rw [e1] at h1
      rw [← h1, e2]
      congr 1
      have h3 : ∀ y, q * y = 256 * (y / d) + q * (y % d) := by
        intro y
        have h4 : q * y = q * (d * (y / d) + y % d) := by rw [Nat.div_add_mod]
        rw [h4, Nat.mul_add, ← Nat.mul_assoc, hq, Nat.mul_comm d q]
      rw [h3 (n / 256)]
      omega
    rw [and_byt, msk, show (m + 256 * msk m k) % 256 = m by omega, show (m + 256 * msk m k) / 256 = msk m k by omega, e5, e4, shm hm hd ⟨q, hq⟩ hc k (n / 256), byt]
