-- codes
def cnb (n : Nat) : Nat → Nat
  | 0 => 0
  | k + 1 => cnb n k + n / 2 ^ k % 2
theorem cnb_le (n : Nat) : ∀ k, cnb n k ≤ k
  | 0 => Nat.le_refl 0
  | k + 1 => by
    have := cnb_le n k
    rw [cnb]
    omega
theorem cnb_cong {n n2 : Nat} : ∀ k, (∀ j, j < k → n / 2 ^ j % 2 = n2 / 2 ^ j % 2) → cnb n k = cnb n2 k
  | 0, _ => rfl
  | k + 1, h => by
    rw [cnb, cnb, h k (by omega), cnb_cong k (fun j hj => h j (by omega))]
theorem cnb_split (n : Nat) : ∀ k, cnb n (8 + k) = cnb (n % 256) 8 + cnb (n / 256) k
  | 0 => by
    rw [cnb, Nat.add_zero, Nat.add_zero]
    refine cnb_cong 8 (fun j hj => ?_)
    rcases (show j = 0 ∨ j = 1 ∨ j = 2 ∨ j = 3 ∨ j = 4 ∨ j = 5 ∨ j = 6 ∨ j = 7 by omega) with rfl | rfl | rfl | rfl | rfl | rfl | rfl | rfl <;> omega
  | k + 1 => by
    have e1 : cnb n (8 + k + 1) = cnb n (8 + k) + n / 2 ^ (8 + k) % 2 := rfl
    have e2 : cnb (n / 256) (k + 1) = cnb (n / 256) k + n / 256 / 2 ^ k % 2 := rfl
    rw [← Nat.add_assoc, e1, e2, cnb_split n k, Nat.pow_add, ← Nat.div_div_eq_div_mul, Nat.add_assoc]
theorem s3b_cnb : ∀ c : Fin 256, s3b c.val = cnb c.val 8 := by decide +kernel
theorem cnb64 (n : Nat) : cnb n 64 = s3b (n % 256) + s3b (n / 256 % 256) + s3b (n / 256 / 256 % 256) + s3b (n / 256 / 256 / 256 % 256) + s3b (n / 256 / 256 / 256 / 256 % 256) + s3b (n / 256 / 256 / 256 / 256 / 256 % 256) + s3b (n / 256 / 256 / 256 / 256 / 256 / 256 % 256) + s3b (n / 256 / 256 / 256 / 256 / 256 / 256 / 256 % 256) := by
  have e : ∀ m, s3b (m % 256) = cnb (m % 256) 8 := fun m => s3b_cnb ⟨m % 256, Nat.mod_lt _ (by omega)⟩
  rw [show (64 : Nat) = 8 + 56 from rfl, cnb_split, show (56 : Nat) = 8 + 48 from rfl, cnb_split, show (48 : Nat) = 8 + 40 from rfl, cnb_split, show (40 : Nat) = 8 + 32 from rfl, cnb_split, show (32 : Nat) = 8 + 24 from rfl, cnb_split, show (24 : Nat) = 8 + 16 from rfl, cnb_split, show (16 : Nat) = 8 + 8 from rfl, cnb_split, show cnb (n / 256 / 256 / 256 / 256 / 256 / 256 / 256) 8 = cnb (n / 256 / 256 / 256 / 256 / 256 / 256 / 256 % 256) 8 + cnb (n / 256 / 256 / 256 / 256 / 256 / 256 / 256 / 256) 0 from cnb_split _ 0, cnb, e, e, e, e, e, e, e, e]
  simp only [Nat.add_assoc, Nat.add_zero]
theorem t32_127 (y : Int64) : (Int64.toInt32 y) &&& 127 = nI (lbN y % 128) := by
  have e1 : Int64.toInt32 y = nI (lbN y) := by
    apply Int32.toInt_inj.mp
    have h1 : (nI (lbN y)).toInt = ((lbN y : Nat) : Int).bmod (2 ^ 32) := BitVec.toInt_ofNat (lbN y)
    have h2 : y.toInt = ((lbN y : Nat) : Int).bmod (2 ^ 64) := BitVec.toInt_eq_toNat_bmod _
    rw [Int64.toInt_toInt32, h1, h2]
    exact Int.bmod_bmod_of_dvd (by decide)
  rw [e1]
  apply Int32.toBitVec_inj.mp
  apply BitVec.eq_of_toNat_eq
  have h3 : lbN y % 2 ^ 32 &&& (2 ^ 7 - 1) = lbN y % 2 ^ 32 % 2 ^ 7 := Nat.and_two_pow_sub_one_eq_mod _ 7
  have h4 : (nI (lbN y)).toBitVec.toNat = lbN y % 2 ^ 32 := BitVec.toNat_ofNat _ _
  have h5 : lbN y % 2 ^ 32 &&& 127 = lbN y % 2 ^ 32 % 128 := h3
  rw [Int32.toBitVec_and, BitVec.toNat_and, h4, nI_toNat (by omega), show (127 : Int32).toBitVec.toNat = 127 by decide +kernel, h5]
  omega
theorem J_long (x : Int64) : F_Jlong_bitCount x = some (nI (cnb (lbN x) 64)) := by
  have h1 : lbN (lb2 (lb1 x)) = byt s12 8 (lbN x) := by
    rw [lb2_N, lb1_N, byt_byt (fun c hc => (s_fin ⟨c, hc⟩).2.1)]
    rfl
  have h2 := lb3_N _ h1
  have hp : ∀ m, s3b (m % 256) ≤ 8 := fun m => (s_fin ⟨m % 256, Nat.mod_lt _ (by omega)⟩).2.2.2.2.2
  have hz : byt s3b 8 (lbN x) ≤ msk 8 8 := byt_le (fun c hc => (s_fin ⟨c, hc⟩).2.2.2.2.2) 8 _
  have hz2 : msk 8 8 < 2 ^ 60 := by decide +kernel
  have hz3 : byt s3b 8 (lbN x) < 1152921504606846976 := by
    have : (2 : Nat) ^ 60 = 1152921504606846976 := by decide
    omega
  have e8 := byt8 s3b (lbN x)
  have hf := fold8 (hp (lbN x)) (hp (lbN x / 256)) (hp (lbN x / 256 / 256)) (hp (lbN x / 256 / 256 / 256)) (hp (lbN x / 256 / 256 / 256 / 256)) (hp (lbN x / 256 / 256 / 256 / 256 / 256)) (hp (lbN x / 256 / 256 / 256 / 256 / 256 / 256)) (hp (lbN x / 256 / 256 / 256 / 256 / 256 / 256 / 256)) e8
  clear e8 hp hz hz2
  rw [lb_all]
  generalize lb3 (lb2 (lb1 x)) = y at *
  generalize byt s3b 8 (lbN x) = z at *
  have g4 : lbN (lb4 y) = z + z / 256 := by
    have h0 : lbN (lsr y 8) = lbN y / 256 := lsr_N y 8 8 (by decide +kernel)
    unfold lb4
    rw [add_N _ _ (by rw [h0, h2]; omega), h0, h2]
  have g5 : lbN (lb5 (lb4 y)) = z + z / 256 + (z + z / 256) / 65536 := by
    have h0 : lbN (lsr (lb4 y) 16) = lbN (lb4 y) / 65536 := lsr_N (lb4 y) 16 16 (by decide +kernel)
    unfold lb5
    rw [add_N _ _ (by rw [h0, g4]; omega), h0, g4]
  have g6 : lbN (lb6 (lb5 (lb4 y))) = z + z / 256 + (z + z / 256) / 65536 + (z + z / 256 + (z + z / 256) / 65536) / 4294967296 := by
    have h0 : lbN (lsr (lb5 (lb4 y)) 32) = lbN (lb5 (lb4 y)) / 4294967296 := lsr_N (lb5 (lb4 y)) 32 32 (by decide +kernel)
    unfold lb6
    rw [add_N _ _ (by rw [h0, g5]; omega), h0, g5]
  rw [t32_127, g6, hf, cnb64]
theorem sh_N (e : Int64) {i : Nat} (hi : i < 64) : ((e >>> (Int32.toInt64 (nI i) &&& 63)) &&& 1) = lQ (lbN e / 2 ^ i % 2) := by
  have key : ∀ i : Fin 64, ((Int32.toInt64 (nI i.val) &&& 63 : Int64).toBitVec.smod 64) = BitVec.ofNat 64 i.val := by decide +kernel
  have h1 : (e >>> (Int32.toInt64 (nI i) &&& 63)).toBitVec = e.toBitVec.sshiftRight' ((Int32.toInt64 (nI i) &&& 63 : Int64).toBitVec.smod 64) := rfl
  have hb : lbN e / 2 ^ i % 2 = if e.toBitVec.getLsbD i = true then 1 else 0 := by
    have h2 : e.toBitVec.getLsbD i = Nat.testBit (lbN e) i := rfl
    rw [h2, Nat.testBit_eq_decide_div_mod_eq]
    by_cases c : lbN e / 2 ^ i % 2 = 1
    · rw [if_pos (decide_eq_true c), c]
    · rw [if_neg (fun h => c (of_decide_eq_true h))]
      omega
  rw [hb]
  apply Int64.toBitVec_inj.mp
  rw [Int64.toBitVec_and, h1, key ⟨i, hi⟩]
  show e.toBitVec.sshiftRight (BitVec.ofNat 64 i).toNat &&& 1#64 = _
  rw [BitVec.toNat_ofNat, Nat.mod_eq_of_lt (by omega)]
  apply BitVec.eq_of_getLsbD_eq
  intro j hj
  rw [BitVec.getLsbD_and, BitVec.getLsbD_sshiftRight]
  by_cases c : j = 0
  · subst c
    rw [if_pos (show i + 0 < 64 by omega), Nat.add_zero]
    cases e.toBitVec.getLsbD i
    · decide
    · decide
  · have h3 : (1#64).getLsbD j = false := by
      rw [BitVec.getLsbD_one]
      simp [c]
    rw [h3, Bool.and_false]
    cases e.toBitVec.getLsbD i
    · have : (lQ (if false = true then 1 else 0)).toBitVec = 0#64 := by decide +kernel
      rw [this, BitVec.getLsbD_zero]
    · have : (lQ (if true = true then 1 else 0)).toBitVec = 1#64 := by decide +kernel
      rw [this, h3]
theorem M_bits (e : Int64) : wh (fun (s : (Int32) × (Int32)) => F_M_codes_L61 e s.1 s.2) 400 ((0 : Int32), (0 : Int32)) = some (nI (cnb (lbN e) 64)) := by
  refine wh_for (fun i => (nI (cnb (lbN e) i), nI i)) 64 (nI (cnb (lbN e) 64)) (fun i hi => ?_) ?_ 400 (by omega)
  · show F_M_codes_L61 e (nI (cnb (lbN e) i)) (nI i) = some (Sum.inl (nI (cnb (lbN e) (i + 1)), nI (i + 1)))
    unfold F_M_codes_L61
    rw [if_neg (nleC 64 64 hi (by omega) rfl), sh_N e hi, nI_1, nI_1, Int32.add_zero, cnb]
    rcases (show lbN e / 2 ^ i % 2 = 0 ∨ lbN e / 2 ^ i % 2 = 1 by omega) with h | h
    · rw [h, if_neg (by decide +kernel)]
      rfl
    · rw [h, if_pos (by decide +kernel)]
  · rfl
def cos (go : Nat → Int32) : Nat → Int64
  | 0 => 0
  | s + 1 => cos go s ||| ((1 : Int64) <<< (Int32.toInt64 (CB go (nI s)) &&& 63))
theorem C_unlike {go : Nat → Int32} {n : Nat} (hn : n ≤ 8) : F_Set_unlikeCodes (nI n) go = some (nI (cnb (lbN (cos go (2 ^ n))) 64)) := by
  obtain ⟨p1, p2⟩ := pow_le hn
  have e : wh (fun (s : (Int64) × (Int32)) => F_Set_unlikeCodes_L4 (nI n) go s.1 s.2) 400 ((0 : Int64), (0 : Int32)) = some (cos go (2 ^ n)) := by
    refine wh_for (fun i => (cos go i, nI i)) (2 ^ n) (cos go (2 ^ n)) (fun i hi => ?_) ?_ 400 (by omega)
    · show F_Set_unlikeCodes_L4 (nI n) go (cos go i) (nI i) = some (Sum.inl (cos go (i + 1), nI (i + 1)))
      unfold F_Set_unlikeCodes_L4
      rw [C_sets hn, Option.bind_some, if_neg (show ¬ nI (2 ^ n - 1) < nI i by rw [i32_lt, nI_toInt (by omega), nI_toInt (by omega)]; omega), C_could, Option.bind_some, nI_1]
      rfl
    · show F_Set_unlikeCodes_L4 (nI n) go _ (nI (2 ^ n)) = _
      unfold F_Set_unlikeCodes_L4
      rw [C_sets hn, Option.bind_some, if_pos (nI_lt (by omega) (by omega))]
  unfold F_Set_unlikeCodes
  rw [e, Option.bind_some, J_long, Option.bind_some]
theorem P_codes {hk : Int32} {th : Int32} {dy : Int32} {dn : Int32} {wt : Nat → Int32} {kd : Nat → Int32} {fg : Nat → Int32} {go : Nat → Int32} {hm : Nat → Int32} {wi : Nat → Int32} {lf : Nat → Int32} {kth : Int32} {kdy : Int32} {kdn : Int32} {kwt : Nat → Int32} {kkd : Nat → Int32} {kfg : Nat → Int32} {kgo : Nat → Int32} {khm : Nat → Int32} {kwi : Nat → Int32} {klf : Nat → Int32} {sc : Int32} {sg : Nat → Nat} {sp : Nat → Int32} {sl : Nat → Int32} {sb : Nat → Int32} {sf : Nat → Int32} {sd : Nat → Int32} {lc : Int32} {lt : Nat → Int32} {nc : Int32} {nu : Nat → Int32} {rf : Nat → Int32} {im : Nat → Int32} {tu : Nat → Int32} (hI : Inv th dy dn wt kd fg go hm wi lf hk kth kdy kdn kwt kkd kfg kgo khm kwi klf im sc sg sp sl sb sf sd tu lt lc nu nc) (x1 : Int32) : ∃ (r : Int32) (rf' : Nat → Int32) (m_thrown' : Int32), F_H_codes th go rf x1 = some (r, rf') ∧ F_M_codes th fg kd rf x1 = some (r, m_thrown', rf') := by
  obtain ⟨⟨n, m, q, hn, hm8, hq, rfl, rfl, rfl, hw, ht, hd, hf⟩, -⟩ := hI
  obtain ⟨p1, p2⟩ := pow_le hn
  have e : wh (fun (s : (Int64) × (Int32)) => F_M_codes_L27 (nI n) fg kd s.1 s.2) 400 ((0 : Int64), (0 : Int32)) = some (cos go (2 ^ n)) := by
    refine wh_for (fun i => (cos go i, nI i)) (2 ^ n) (cos go (2 ^ n)) (fun i hi => ?_) ?_ 400 (by omega)
    · show F_M_codes_L27 (nI n) fg kd (cos go i) (nI i) = some (Sum.inl (cos go (i + 1), nI (i + 1)))
      unfold F_M_codes_L27
      rw [shl_n hn, if_neg (nI_leN hi (by omega)), M_CB hn ht hi, Option.bind_some, nI_1]
      rfl
    · show F_M_codes_L27 (nI n) fg kd _ (nI (2 ^ n)) = _
      unfold F_M_codes_L27
      rw [shl_n hn, if_pos (nI_le (Nat.le_refl _) (by omega))]
  rcases inR x1 2 (by omega) with ⟨w, hw, rfl⟩ | h
  · have c0 := M_in0_y 2 1 hw (by omega) (by decide +kernel)
    rcases (show w = 0 ∨ w = 1 by omega) with rfl | rfl
    · refine ⟨nI (cnb (lbN (cos go (2 ^ n))) 64), rf, 0, ?_, ?_⟩
      · unfold F_H_codes
        rw [if_pos (show nI 0 = 0 from rfl), C_unlike hn]
        rfl
      · unfold F_M_codes
        rw [c0, Option.bind_some, if_neg (by decide), e, Option.bind_some, M_bits, Option.bind_some, if_pos (show nI 0 = 0 from rfl)]
    · refine ⟨64 - nI (cnb (lbN (cos go (2 ^ n))) 64), rf, 0, ?_, ?_⟩
      · unfold F_H_codes
        rw [if_neg (show ¬ nI 1 = 0 by decide), if_pos (show nI 1 = 1 from rfl), C_unlike hn]
        rfl
      · unfold F_M_codes
        rw [c0, Option.bind_some, if_neg (by decide), e, Option.bind_some, M_bits, Option.bind_some, if_neg (show ¬ nI 1 = 0 by decide)]
  · refine ⟨-2, rfx rf 2, 0, ?_, ?_⟩
    · unfold F_H_codes
      rw [if_neg (outC h 0 0 (by omega) (by omega) rfl), if_neg (outC h 1 1 (by omega) (by omega) rfl)]
      rfl
    · unfold F_M_codes
      rw [M_in0_n 2 1 h (by omega) (by omega) (by decide +kernel)]
      rfl
