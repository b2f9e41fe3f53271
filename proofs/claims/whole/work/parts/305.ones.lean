-- how many bits
def bc (x : Int32) : Int32 := (F_Jint_bitCount x).getD 0
theorem J_bc (x : Int32) : F_Jint_bitCount x = some (bc x) := rfl
theorem and63 {x : Int32} (h : x &&& 63 = x) : ∃ n, n < 64 ∧ x = nI n := by
  refine ⟨x.toBitVec.toNat, ?_, ?_⟩
  · have e : (x &&& 63).toBitVec.toNat = x.toBitVec.toNat := by rw [h]
    rw [Int32.toBitVec_and, BitVec.toNat_and] at e
    have h1 : x.toBitVec.toNat &&& (63 : Int32).toBitVec.toNat ≤ (63 : Int32).toBitVec.toNat := Nat.and_le_right
    have e2 : (63 : Int32).toBitVec.toNat = 63 := by decide +kernel
    rw [e, e2] at h1
    omega
  · apply Int32.toBitVec_inj.mp
    show x.toBitVec = BitVec.ofNat 32 x.toBitVec.toNat
    rw [BitVec.ofNat_toNat, BitVec.setWidth_eq]
theorem CB_lt (go : Nat → Int32) (h : Int32) : ∃ n, n < 64 ∧ CB go h = nI n := and63 (cbs_63 go h 8)
theorem ones256 : ∀ n : Fin 256, F_M_onesOf (nI n.val) = F_Jint_bitCount (nI n.val) := by decide +kernel
theorem M_ones {n : Nat} (h : n < 256) : F_M_onesOf (nI n) = some (bc (nI n)) := (ones256 ⟨n, h⟩).trans (J_bc _)
theorem M_onesC (go : Nat → Int32) (h : Int32) : F_M_onesOf (CB go h) = some (bc (CB go h)) := by
  obtain ⟨n, hn, e⟩ := CB_lt go h
  rw [e]
  exact M_ones (by omega)
theorem C_many {go hm : Nat → Int32} {m : Nat} (hm8 : m ≤ 8) (x : Int32) : F_Dia_withSoMany (nI m) go hm x = some (dbs (fun d => decide (bc (CB go (hm d)) = x)) m) := by
  unfold F_Dia_withSoMany
  refine (wh_forB (fun i => (dbs (fun d => decide (bc (CB go (hm d)) = x)) (min i m), nI i)) 8 (dbs (fun d => decide (bc (CB go (hm d)) = x)) m) 400 (by omega) (fun i hi => ?_) ?_).trans rfl
  · show F_Dia_withSoMany_L4 (nI m) go hm x (dbs _ (min i m)) (nI i) = some (Sum.inl (dbs _ (min (i + 1) m), nI (i + 1)))
    unfold F_Dia_withSoMany_L4
    rw [if_neg (nleC 8 8 hi (by omega) rfl), nI_1]
    by_cases h : i < m
    · rw [hasD_y h hm8, C_ham hm8 h, mn0 h, mn1 h]
      show (F_Sta_couldBe go (hm i)).bind _ = _
      rw [C_could, Option.bind_some]
      show (if bc (CB go (hm i)) = x then _ else _) = _
      by_cases c : bc (CB go (hm i)) = x
      · rw [if_pos c, dbs_y (decide_eq_true c)]
      · rw [if_neg c, dbs_n (decide_eq_false c)]
    · rw [hasD_n2 (by omega) hi, mn2 (by omega)]
      rfl
  · show F_Dia_withSoMany_L4 (nI m) go hm x _ (nI 8) = _
    unfold F_Dia_withSoMany_L4
    rw [if_pos (by decide +kernel), show min 8 m = m by omega]
theorem P_sure {hk : Int32} {th : Int32} {dy : Int32} {dn : Int32} {wt : Nat → Int32} {kd : Nat → Int32} {fg : Nat → Int32} {go : Nat → Int32} {hm : Nat → Int32} {wi : Nat → Int32} {lf : Nat → Int32} {kth : Int32} {kdy : Int32} {kdn : Int32} {kwt : Nat → Int32} {kkd : Nat → Int32} {kfg : Nat → Int32} {kgo : Nat → Int32} {khm : Nat → Int32} {kwi : Nat → Int32} {klf : Nat → Int32} {sc : Int32} {sg : Nat → Nat} {sp : Nat → Int32} {sl : Nat → Int32} {sb : Nat → Int32} {sf : Nat → Int32} {sd : Nat → Int32} {lc : Int32} {lt : Nat → Int32} {nc : Int32} {nu : Nat → Int32} {rf : Nat → Int32} {im : Nat → Int32} {tu : Nat → Int32} (hI : Inv th dy dn wt kd fg go hm wi lf hk kth kdy kdn kwt kkd kfg kgo khm kwi klf im sc sg sp sl sb sf sd tu lt lc nu nc) (x1 : Int32) : ∃ (r : Int32) (rf' : Nat → Int32) (m_thrown' : Int32), F_H_sure dy go hm rf x1 = some (r, rf') ∧ F_M_sure dy th fg hm kd rf x1 = some (r, m_thrown', rf') := by
  obtain ⟨⟨n, m, q, hn, hm8, hq, rfl, rfl, rfl, hw, ht, hd, hf⟩, -⟩ := hI
  have eM : ∀ (x : Int32) {f : Int32 → Option (Int32 × Int32 × (Nat → Int32))}, (wh (fun (s : (Int32) × (Int32)) => F_M_sure_L26 (nI m) (nI n) fg hm kd x s.1 s.2) 400 ((0 : Int32), (0 : Int32))).bind f = f (dbs (fun d => decide (bc (CB go (hm d)) = 1 - x)) m) := by
    intro x f
    refine wh_forB (fun i => (dbs (fun d => decide (bc (CB go (hm d)) = 1 - x)) i, nI i)) m _ 400 (by omega) (fun i hi => ?_) ?_
    · show F_M_sure_L26 (nI m) (nI n) fg hm kd x _ (nI i) = some (Sum.inl (dbs _ (i + 1), nI (i + 1)))
      unfold F_M_sure_L26
      obtain ⟨hh, g1, g2⟩ := hd i hi
      rw [if_neg (nI_leN hi (by omega)), ck_nI _ (show i < 8 by omega) (by omega), nI_clamp (show i < 2 ^ 31 by omega), g2, M_CB hn ht g1, ← g2, nI_1]
      rw [Option.bind_some, M_onesC]
      show (if bc (CB go (hm i)) = 1 - x then _ else _) = _
      by_cases c : bc (CB go (hm i)) = 1 - x
      · rw [if_pos c, dbs_y (decide_eq_true c)]
      · rw [if_neg c, dbs_n (decide_eq_false c), Int32.or_zero]
    · show F_M_sure_L26 (nI m) (nI n) fg hm kd x _ (nI m) = _
      unfold F_M_sure_L26
      rw [if_pos (nI_le (Nat.le_refl m) (by omega))]
  rcases inR x1 2 (by omega) with ⟨w, hw, rfl⟩ | h
  · have c0 := M_in0_y 2 1 hw (by omega) (by decide +kernel)
    rcases (show w = 0 ∨ w = 1 by omega) with rfl | rfl
    · refine ⟨dbs (fun d => decide (bc (CB go (hm d)) = 1)) m, rf, 0, ?_, ?_⟩
      · unfold F_H_sure; rw [C_many hm8]; rfl
      · unfold F_M_sure; rw [c0]; exact eM (nI 0)
    · refine ⟨dbs (fun d => decide (bc (CB go (hm d)) = 0)) m, rf, 0, ?_, ?_⟩
      · unfold F_H_sure; rw [C_many hm8, C_many hm8]; rfl
      · unfold F_M_sure; rw [c0]; exact eM (nI 1)
  · refine ⟨-2, rfx rf 2, 0, ?_, ?_⟩
    · unfold F_H_sure
      rw [if_neg (outC h 0 0 (by omega) (by omega) rfl), if_neg (outC h 1 1 (by omega) (by omega) rfl)]
      rfl
    · unfold F_M_sure; rw [M_in0_n 2 1 h (by omega) (by omega) (by decide +kernel)]; rfl
def pks (hm : Nat → Int32) : Nat → Int32
  | 0 => 0
  | d + 1 => pks hm d + bc (hm d)
theorem C_ham_n {hm : Nat → Int32} {m d : Nat} (h : m ≤ d) (hd : d < 8) : F_Sta_hamperOf (nI m) hm (nI d) = some 0 := by
  unfold F_Sta_hamperOf
  rw [hasD_n2 h hd]
  rfl
theorem bc0 : bc 0 = 0 := by decide +kernel
theorem C_packed {hm : Nat → Int32} {m : Nat} (hm8 : m ≤ 8) : F_Sta_allPacked (nI m) hm = some (pks hm m) := by
  unfold F_Sta_allPacked
  refine (wh_forB (fun i => (pks hm (min i m), nI i)) 8 (pks hm m) 400 (by omega) (fun i hi => ?_) ?_).trans rfl
  · show F_Sta_allPacked_L4 (nI m) hm (pks hm (min i m)) (nI i) = some (Sum.inl (pks hm (min (i + 1) m), nI (i + 1)))
    unfold F_Sta_allPacked_L4
    rw [if_neg (nleC 8 8 hi (by omega) rfl), nI_1]
    by_cases h : i < m
    · rw [C_ham hm8 h, mn0 h, mn1 h]
      rfl
    · rw [C_ham_n (by omega) hi, mn2 (by omega), Option.bind_some, J_bc, bc0, Option.bind_some, Int32.add_zero]
  · show F_Sta_allPacked_L4 (nI m) hm _ (nI 8) = _
    unfold F_Sta_allPacked_L4
    rw [if_pos (by decide +kernel), show min 8 m = m by omega]
theorem lt256 {h n : Nat} (hh : h < 2 ^ n) (hn : n ≤ 8) : h < 256 := Nat.lt_of_lt_of_le hh (Nat.pow_le_pow_right (by omega) hn)
theorem P_count {hk : Int32} {th : Int32} {dy : Int32} {dn : Int32} {wt : Nat → Int32} {kd : Nat → Int32} {fg : Nat → Int32} {go : Nat → Int32} {hm : Nat → Int32} {wi : Nat → Int32} {lf : Nat → Int32} {kth : Int32} {kdy : Int32} {kdn : Int32} {kwt : Nat → Int32} {kkd : Nat → Int32} {kfg : Nat → Int32} {kgo : Nat → Int32} {khm : Nat → Int32} {kwi : Nat → Int32} {klf : Nat → Int32} {sc : Int32} {sg : Nat → Nat} {sp : Nat → Int32} {sl : Nat → Int32} {sb : Nat → Int32} {sf : Nat → Int32} {sd : Nat → Int32} {lc : Int32} {lt : Nat → Int32} {nc : Int32} {nu : Nat → Int32} {rf : Nat → Int32} {im : Nat → Int32} {tu : Nat → Int32} (hI : Inv th dy dn wt kd fg go hm wi lf hk kth kdy kdn kwt kkd kfg kgo khm kwi klf im sc sg sp sl sb sf sd tu lt lc nu nc) (x1 : Int32) : ∃ (r : Int32) (m_thrown' : Int32), F_H_count lc dy dn th hm wt nc rf sc x1 = some r ∧ F_M_count dy dn lc nc th sc hm rf wt x1 = some (r, m_thrown') := by
  obtain ⟨⟨n, m, q, hn, hm8, hq, rfl, rfl, rfl, hw, ht, hd, hf⟩, -⟩ := hI
  have eM : ∀ {f : Int32 → Option (Int32 × Int32)}, (wh (fun (s : (Int32) × (Int32)) => F_M_count_L80 (nI m) hm s.1 s.2) 400 ((0 : Int32), (0 : Int32))).bind f = f (pks hm m) := by
    intro f
    refine wh_forB (fun i => (pks hm i, nI i)) m _ 400 (by omega) (fun i hi => ?_) ?_
    · show F_M_count_L80 (nI m) hm _ (nI i) = some (Sum.inl (pks hm (i + 1), nI (i + 1)))
      unfold F_M_count_L80
      obtain ⟨hh, g1, g2⟩ := hd i hi
      rw [if_neg (nI_leN hi (by omega)), ck_nI _ (show i < 8 by omega) (by omega), nI_clamp (show i < 2 ^ 31 by omega), g2, M_ones (lt256 g1 hn), ← g2, nI_1]
      rfl
    · show F_M_count_L80 (nI m) hm _ (nI m) = _
      unfold F_M_count_L80
      rw [if_pos (nI_le (Nat.le_refl m) (by omega))]
  rcases inR x1 17 (by omega) with ⟨w, hw, rfl⟩ | h
  · rcases (show w < 8 ∨ w = 8 ∨ w = 9 ∨ w = 10 ∨ 11 ≤ w by omega) with h8 | h8 | h8 | h8 | h8
    · rcases (show w = 0 ∨ w = 1 ∨ w = 2 ∨ w = 3 ∨ w = 4 ∨ w = 5 ∨ w = 6 ∨ w = 7 by omega) with rfl | rfl | rfl | rfl | rfl | rfl | rfl | rfl
      · exact ⟨_, 0, rfl, rfl⟩
      · exact ⟨_, 0, rfl, rfl⟩
      · exact ⟨_, 0, rfl, rfl⟩
      · refine ⟨wsm wt 63 6, 0, ?_, ?_⟩
        · unfold F_H_count; rw [C_wsum]; rfl
        · unfold F_M_count; rw [M_wsum]; rfl
      · refine ⟨pks hm m, 0, ?_, ?_⟩
        · unfold F_H_count; rw [C_packed hm8]; rfl
        · unfold F_M_count; exact eM
      · exact ⟨_, 0, rfl, rfl⟩
      · exact ⟨_, 0, rfl, rfl⟩
      · exact ⟨_, 0, rfl, rfl⟩
    · subst h8; exact ⟨_, 0, rfl, rfl⟩
    · subst h8; exact ⟨_, 0, rfl, rfl⟩
    · subst h8; exact ⟨_, 0, rfl, rfl⟩
    · rcases (show w = 11 ∨ w = 12 ∨ w = 13 ∨ w = 14 ∨ w = 15 ∨ w = 16 by omega) with rfl | rfl | rfl | rfl | rfl | rfl <;> exact ⟨_, 0, rfl, rfl⟩
  · refine ⟨-9, 0, ?_, ?_⟩
    · unfold F_H_count
      rw [if_neg (outC h 0 0 (by omega) (by omega) rfl), if_neg (outC h 1 1 (by omega) (by omega) rfl), if_neg (outC h 2 2 (by omega) (by omega) rfl), if_neg (outC h 3 3 (by omega) (by omega) rfl), if_neg (outC h 4 4 (by omega) (by omega) rfl), if_neg (outC h 5 5 (by omega) (by omega) rfl), if_neg (outC h 6 6 (by omega) (by omega) rfl), if_neg (outC h 7 7 (by omega) (by omega) rfl), if_neg (outC h 11 11 (by omega) (by omega) rfl), if_neg (outC h 12 12 (by omega) (by omega) rfl), if_neg (outC h 13 13 (by omega) (by omega) rfl), if_neg (outC h 14 14 (by omega) (by omega) rfl), if_neg (outC h 15 15 (by omega) (by omega) rfl), if_neg (outC h 16 16 (by omega) (by omega) rfl)]
    · unfold F_M_count
      rw [if_neg (outC h 0 0 (by omega) (by omega) rfl), if_neg (outC h 1 1 (by omega) (by omega) rfl), if_neg (outC h 2 2 (by omega) (by omega) rfl), if_neg (outC h 3 3 (by omega) (by omega) rfl), if_neg (outC h 4 4 (by omega) (by omega) rfl), if_neg (outC h 5 5 (by omega) (by omega) rfl), if_neg (outC h 6 6 (by omega) (by omega) rfl), if_neg (outC h 7 7 (by omega) (by omega) rfl), M_in_n (x := x1) (lo := 11) (hi := 16) (by decide +kernel) (by decide +kernel) ?_]
      · rfl
      · rcases h with h | ⟨-, h⟩
        · left
          rw [i32_lt] at h ⊢
          exact Int.lt_trans h (by decide +kernel)
        · right
          rw [i32_le, nI_toInt (by omega)] at h
          rw [i32_lt]
          exact Int.lt_of_lt_of_le (by decide +kernel) h
