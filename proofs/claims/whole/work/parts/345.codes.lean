-- the count of a long's bits: the stages
theorem byt_add (f g : Nat → Nat) : ∀ k n, byt f k n + byt g k n = byt (fun c => f c + g c) k n
  | 0, _ => rfl
  | k + 1, n => by
    rw [byt, byt, byt, ← byt_add f g k]
    omega
theorem byt_sub {f g : Nat → Nat} (h : ∀ c, c < 256 → g c ≤ f c) : ∀ k n, byt g k n ≤ byt f k n ∧ byt f k n - byt g k n = byt (fun c => f c - g c) k n
  | 0, _ => ⟨Nat.le_refl _, rfl⟩
  | k + 1, n => by
    obtain ⟨h1, h2⟩ := byt_sub h k (n / 256)
    have h3 := h (n % 256) (Nat.mod_lt _ (by omega))
    rw [byt, byt, byt, ← h2]
    omega
theorem byt_le {f : Nat → Nat} {m : Nat} (h : ∀ c, c < 256 → f c ≤ m) : ∀ k n, byt f k n ≤ msk m k
  | 0, _ => Nat.le_refl _
  | k + 1, n => by
    have h1 := h (n % 256) (Nat.mod_lt _ (by omega))
    have h2 := byt_le h k (n / 256)
    rw [byt, msk]
    omega
def s1b (c : Nat) : Nat := c - (c / 2 &&& 85)
def s2b (c : Nat) : Nat := (c / 1 &&& 51) + (c / 4 &&& 51)
def s12 (c : Nat) : Nat := s2b (s1b c)
def s3b (c : Nat) : Nat := (s12 c + s12 c / 16) % 16
theorem s_fin : ∀ c : Fin 256, (c.val / 2 &&& 85) ≤ c.val ∧ s1b c.val < 256 ∧ s2b c.val < 256 ∧ s12 c.val % 16 ≤ 4 ∧ s12 c.val / 16 ≤ 4 ∧ s3b c.val ≤ 8 := by decide +kernel
theorem c_fin : ∀ c : Fin 256, ∀ e : Fin 4, ((c.val / 2 + 128 * (e.val % 2)) % 256 &&& 85) = (c.val / 2 &&& 85) ∧ ((c.val / 4 + 64 * e.val) % 256 &&& 51) = (c.val / 4 &&& 51) ∧ ((c.val / 1) % 256 &&& 51) = (c.val / 1 &&& 51) := by decide +kernel
theorem lb1_N (x : Int64) : lbN (lb1 x) = byt s1b 8 (lbN x) := by
  have h0 : lbN (lsr x 1) = lbN x / 2 := lsr_N x 1 1 (by decide +kernel)
  have hm : lbN (6148914691236517205 : Int64) = msk 85 8 := by decide +kernel
  have h1 : lbN ((lsr x 1) &&& (6148914691236517205 : Int64)) = byt (fun c => c / 2 &&& 85) 8 (lbN x) := by
    rw [and_N, h0, hm]
    refine shm (by omega) (by omega) ⟨128, rfl⟩ (fun c e hc he => ?_) 8 (lbN x)
    have h := (c_fin ⟨c, hc⟩ ⟨e, by omega⟩).1
    rw [show 256 / 2 = 128 from rfl]
    rw [show (⟨e, by omega⟩ : Fin 4).val % 2 = e from Nat.mod_eq_of_lt he] at h
    exact h
  have h2 : byt (fun c => c) 8 (lbN x) = lbN x := byt_id 8 _ (lbN_lt x)
  obtain ⟨h3, h4⟩ := byt_sub (f := fun c => c) (g := fun c => c / 2 &&& 85) (fun c hc => (s_fin ⟨c, hc⟩).1) 8 (lbN x)
  rw [h2] at h3 h4
  unfold lb1
  rw [sub_N _ _ (by rw [h1]; exact h3), h1, h4]
  rfl
theorem lb2_N (x : Int64) : lbN (lb2 x) = byt s2b 8 (lbN x) := by
  have h0 : lbN (lsr x 2) = lbN x / 4 := lsr_N x 2 2 (by decide +kernel)
  have hm : lbN (3689348814741910323 : Int64) = msk 51 8 := by decide +kernel
  have h1 : lbN ((lsr x 2) &&& (3689348814741910323 : Int64)) = byt (fun c => c / 4 &&& 51) 8 (lbN x) := by
    rw [and_N, h0, hm]
    refine shm (by omega) (by omega) ⟨64, rfl⟩ (fun c e hc he => ?_) 8 (lbN x)
    exact (c_fin ⟨c, hc⟩ ⟨e, he⟩).2.1
  have h2 : lbN (x &&& (3689348814741910323 : Int64)) = byt (fun c => c / 1 &&& 51) 8 (lbN x) := by
    rw [and_N, hm]
    have h := shm (m := 51) (d := 1) (by omega) (by omega) ⟨256, rfl⟩ (fun c e hc he => by
      rw [show e = 0 by omega, Nat.mul_zero, Nat.add_zero]
      exact (c_fin ⟨c, hc⟩ 0).2.2) 8 (lbN x)
    rw [Nat.div_one] at h
    exact h
  have h3 := byt_lt (f := s2b) (fun c hc => (s_fin ⟨c, hc⟩).2.2.1) 8 (lbN x)
  have h4 : byt (fun c => c / 1 &&& 51) 8 (lbN x) + byt (fun c => c / 4 &&& 51) 8 (lbN x) = byt s2b 8 (lbN x) := byt_add _ _ 8 (lbN x)
  unfold lb2
  rw [add_N _ _ (by rw [h1, h2, h4]; exact h3), h1, h2, h4]
theorem low4 {f : Nat → Nat} (h : ∀ c, c < 256 → f c % 16 ≤ 4) : ∀ k n, byt f k n % 16 ≤ 4
  | 0, _ => by
    rw [byt]
    omega
  | k + 1, n => by
    have h1 := h (n % 256) (Nat.mod_lt _ (by omega))
    rw [byt]
    omega
theorem st3 : ∀ k n, (byt s12 k n + byt s12 k n / 16) &&& msk 15 k = byt s3b k n
  | 0, n => Nat.and_zero _
  | k + 1, n => by
    have h1 := (s_fin ⟨n % 256, Nat.mod_lt _ (by omega)⟩).2.2.2.1
    have h2 := (s_fin ⟨n % 256, Nat.mod_lt _ (by omega)⟩).2.2.2.2.1
    have h1' : s12 (n % 256) % 16 ≤ 4 := h1
    have h2' : s12 (n % 256) / 16 ≤ 4 := h2
    have h3 := low4 (f := s12) (fun c hc => (s_fin ⟨c, hc⟩).2.2.2.1) k (n / 256)
    have ih := st3 k (n / 256)
    rw [and_byt, msk, byt, byt, show (15 + 256 * msk 15 k) % 256 = 15 by omega, show (15 + 256 * msk 15 k) / 256 = msk 15 k by omega, ← ih]
    generalize byt s12 k (n / 256) = A at *
    unfold s3b
    generalize s12 (n % 256) = a at *
    have e1 : (a + 256 * A + (a + 256 * A) / 16) / 256 = A + A / 16 := by omega
    have e2 : (a + 256 * A + (a + 256 * A) / 16) % 256 = a + a / 16 + 16 * (A % 16) := by omega
    have e3 : (a + a / 16 + 16 * (A % 16)) &&& 15 = (a + a / 16) % 16 := by
      have h4 : (a + a / 16 + 16 * (A % 16)) &&& (2 ^ 4 - 1) = (a + a / 16 + 16 * (A % 16)) % 2 ^ 4 := Nat.and_two_pow_sub_one_eq_mod _ 4
      have h5 : (a + a / 16 + 16 * (A % 16)) &&& 15 = (a + a / 16 + 16 * (A % 16)) % 16 := h4
      omega
    rw [e1, e2, e3]
theorem lb3_N (x : Int64) {n : Nat} (h : lbN x = byt s12 8 n) : lbN (lb3 x) = byt s3b 8 n := by
  have h0 : lbN (lsr x 4) = lbN x / 16 := lsr_N x 4 4 (by decide +kernel)
  have hm : lbN (1085102592571150095 : Int64) = msk 15 8 := by decide +kernel
  have h1 := byt_le (f := s12) (m := 68) (fun c hc => by
    have h1 := (s_fin ⟨c, hc⟩).2.2.2.1
    have h2 := (s_fin ⟨c, hc⟩).2.2.2.2.1
    have h1' : s12 c % 16 ≤ 4 := h1
    have h2' : s12 c / 16 ≤ 4 := h2
    omega) 8 n
  have h2 : msk 68 8 < 2 ^ 63 := by decide +kernel
  unfold lb3
  rw [and_N, hm, add_N _ _ (by rw [h0, h]; omega), h0, h, st3]
