-- the count of a long's bits: the sum
theorem byt8 (f : Nat → Nat) (n : Nat) : byt f 8 n = f (n % 256) + 256 * (f (n / 256 % 256) + 256 * (f (n / 256 / 256 % 256) + 256 * (f (n / 256 / 256 / 256 % 256) + 256 * (f (n / 256 / 256 / 256 / 256 % 256) + 256 * (f (n / 256 / 256 / 256 / 256 / 256 % 256) + 256 * (f (n / 256 / 256 / 256 / 256 / 256 / 256 % 256) + 256 * (f (n / 256 / 256 / 256 / 256 / 256 / 256 / 256 % 256) + 256 * 0))))))) := by
  rw [byt, byt, byt, byt, byt, byt, byt, byt, byt]
theorem d256 {a b : Nat} (h : a < 256) : (a + 256 * b) / 256 = b := by omega
theorem d64k {a b : Nat} (h : a < 65536) : (a + 65536 * b) / 65536 = b := by omega
theorem d4g {a b : Nat} (h : a < 4294967296) : (a + 4294967296 * b) / 4294967296 = b := by omega
theorem lin1 (p0 p1 p2 p3 p4 p5 p6 p7 : Nat) : (p0 + 256 * (p1 + 256 * (p2 + 256 * (p3 + 256 * (p4 + 256 * (p5 + 256 * (p6 + 256 * (p7 + 256 * 0)))))))) + (p1 + 256 * (p2 + 256 * (p3 + 256 * (p4 + 256 * (p5 + 256 * (p6 + 256 * (p7 + 256 * 0))))))) = ((p0 + p1) + 256 * (p1 + p2)) + 65536 * (((p2 + p3) + 256 * (p3 + p4)) + 65536 * (((p4 + p5) + 256 * (p5 + p6)) + 65536 * ((p6 + p7) + 256 * p7))) := by omega
theorem lin2 (a0 a2 a4 a6 : Nat) : (a0 + 65536 * (a2 + 65536 * (a4 + 65536 * a6))) + (a2 + 65536 * (a4 + 65536 * a6)) = ((a0 + a2) + 65536 * (a2 + a4)) + 4294967296 * ((a4 + a6) + 65536 * a6) := by omega
theorem lin3 (a0 a2 a4 a6 : Nat) : (((a0 + a2) + 65536 * (a2 + a4)) + 4294967296 * ((a4 + a6) + 65536 * a6) + ((a4 + a6) + 65536 * a6)) % 128 = (a0 + a2 + a4 + a6) % 128 := by omega
theorem lin4 (p0 p1 p2 p3 p4 p5 p6 p7 : Nat) : (((p0 + p1) + 256 * (p1 + p2)) + ((p2 + p3) + 256 * (p3 + p4)) + ((p4 + p5) + 256 * (p5 + p6)) + ((p6 + p7) + 256 * p7)) % 128 = (p0 + p1 + p2 + p3 + p4 + p5 + p6 + p7) % 128 := by omega
theorem fold8 {p0 p1 p2 p3 p4 p5 p6 p7 z : Nat} (h0 : p0 ≤ 8) (h1 : p1 ≤ 8) (h2 : p2 ≤ 8) (h3 : p3 ≤ 8) (h4 : p4 ≤ 8) (h5 : p5 ≤ 8) (h6 : p6 ≤ 8) (h7 : p7 ≤ 8) (hz : z = p0 + 256 * (p1 + 256 * (p2 + 256 * (p3 + 256 * (p4 + 256 * (p5 + 256 * (p6 + 256 * (p7 + 256 * 0)))))))) : (z + z / 256 + (z + z / 256) / 65536 + (z + z / 256 + (z + z / 256) / 65536) / 4294967296) % 128 = p0 + p1 + p2 + p3 + p4 + p5 + p6 + p7 := by
  have e1 : z / 256 = p1 + 256 * (p2 + 256 * (p3 + 256 * (p4 + 256 * (p5 + 256 * (p6 + 256 * (p7 + 256 * 0)))))) := by
    rw [hz, d256 (Nat.lt_of_le_of_lt h0 (by decide))]
  have e2 : z + z / 256 = ((p0 + p1) + 256 * (p1 + p2)) + 65536 * (((p2 + p3) + 256 * (p3 + p4)) + 65536 * (((p4 + p5) + 256 * (p5 + p6)) + 65536 * ((p6 + p7) + 256 * p7))) := by
    rw [e1, hz, lin1]
  have b0 : (p0 + p1) + 256 * (p1 + p2) ≤ 4112 := by clear e1 e2 hz h3 h4 h5 h6 h7; omega
  have b2 : (p2 + p3) + 256 * (p3 + p4) ≤ 4112 := by clear e1 e2 hz h0 h1 h5 h6 h7 b0; omega
  have b4 : (p4 + p5) + 256 * (p5 + p6) ≤ 4112 := by clear e1 e2 hz h0 h1 h2 h3 h7 b0 b2; omega
  rw [e2, d64k (Nat.lt_of_le_of_lt b0 (by decide)), lin2, d4g (by clear e1 e2 hz; omega), lin3, lin4]
  clear e1 e2 hz b0 b2 b4
  omega
