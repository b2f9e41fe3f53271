-- summers by lot
theorem nI_toNat {a : Nat} (ha : a < 2 ^ 31) : (nI a).toBitVec.toNat = a := by
  have h1 := nI_toInt ha
  have h2 : (nI a).toBitVec.toInt = a := h1
  rw [BitVec.toInt_eq_toNat_cond] at h2
  split at h2 <;> omega
theorem and_nI (z : Int32) {b : Nat} (hb : b < 2 ^ 31) : ∃ k, k ≤ b ∧ z &&& nI b = nI k := by
  have hl : z.toBitVec.toNat &&& b ≤ b := Nat.and_le_right
  refine ⟨z.toBitVec.toNat &&& b, hl, ?_⟩
  apply Int32.toBitVec_inj.mp
  rw [Int32.toBitVec_and]
  apply BitVec.eq_of_toNat_eq
  rw [BitVec.toNat_and, nI_toNat hb, nI_toNat (by omega)]
theorem D_div {a b : Nat} (ha : a < 2 ^ 31) (hb2 : b < 2 ^ 31) : nI a / nI b = nI (a / b) := by
  have hle : a / b ≤ a := Nat.div_le_self a b
  apply Int32.toInt_inj.mp
  rw [Int32.toInt_div, nI_toInt ha, nI_toInt hb2, Int.tdiv_eq_ediv_of_nonneg (by omega), ← Int.natCast_ediv, nI_toInt (by omega)]
  generalize a / b = x at hle
  apply Int.bmod_eq_of_le <;> omega
theorem D_mod {a b : Nat} (ha : a < 2 ^ 31) (hb : 1 ≤ b) (hb2 : b < 2 ^ 31) : nI a - nI a / nI b * nI b = nI (a % b) := by
  have hm : a % b < b := Nat.mod_lt _ (by omega)
  have hdm : a / b * b + a % b = a := by rw [Nat.mul_comm]; exact Nat.div_add_mod a b
  rw [D_div ha hb2]
  apply Int32.toInt_inj.mp
  have hle : a / b ≤ a := Nat.div_le_self a b
  generalize a % b = r at hm hdm ⊢
  generalize a / b = x at hle hdm ⊢
  have e2 : (nI x * nI b).toInt = ((x * b : Nat) : Int) := by
    rw [Int32.toInt_mul, nI_toInt (by omega), nI_toInt hb2, ← Int.natCast_mul]
    generalize x * b = z at hdm
    apply Int.bmod_eq_of_le <;> omega
  rw [Int32.toInt_sub, e2, nI_toInt ha, nI_toInt (show r < 2 ^ 31 by omega)]
  generalize x * b = z at hdm
  rw [show ((a : Int) - (z : Int)).bmod (2 ^ 32) = (a : Int) - (z : Int) by apply Int.bmod_eq_of_le <;> omega]
  omega
def dwn (n : Nat) (z : Int32) : Int32 := ((z &&& (2147483647 : Int32)) / ((65536 : Int32) : Int32)) - ((z &&& (2147483647 : Int32)) / ((65536 : Int32) : Int32)) / nI (2 ^ n) * nI (2 ^ n)
theorem dwn_n {n : Nat} (hn : n ≤ 8) (z : Int32) : ∃ h, h < 2 ^ n ∧ dwn n z = nI h := by
  obtain ⟨p1, p2⟩ := pow_le hn
  obtain ⟨k, k1, k2⟩ := and_nI z (b := 2147483647) (by omega)
  have k3 : z &&& (2147483647 : Int32) = nI k := k2
  have hle : k / 65536 ≤ k := Nat.div_le_self k 65536
  refine ⟨k / 65536 % 2 ^ n, Nat.mod_lt _ (by omega), ?_⟩
  unfold dwn
  rw [k3, show (65536 : Int32) = nI 65536 from rfl, D_div (by omega) (by omega), D_mod (by omega) (by omega) (by omega)]
theorem C_drawn {n : Nat} (hn : n ≤ 8) (z : Int32) : F_Har_drawn z (nI (2 ^ n - 1) + 1) = some (dwn n z) := by
  obtain ⟨p1, p2⟩ := pow_le hn
  have e0 : ¬ nI (2 ^ n) ≤ 0 := by rw [i32_le, nI_toInt (by omega), Int32.toInt_zero]; omega
  have e1 : ¬ nI (2 ^ n) = 0 := by intro e; exact e0 (by rw [e]; decide)
  unfold F_Har_drawn ck0
  rw [nI_1, show 2 ^ n - 1 + 1 = 2 ^ n by omega, if_neg e0, if_neg e1]
  rfl
def zst (z : Int32) : Int32 := (z * (1103515245 : Int32)) + 12345
theorem M_drawn {n : Nat} (hn : n ≤ 8) (z : Int32) : F_M_drawBelow z (nI (2 ^ n)) = some (dwn n (zst z), zst z) := by
  obtain ⟨p1, p2⟩ := pow_le hn
  have e0 : ¬ nI (2 ^ n) ≤ 0 := by rw [i32_le, nI_toInt (by omega), Int32.toInt_zero]; omega
  have e1 : ¬ nI (2 ^ n) = 0 := by intro e; exact e0 (by rw [e]; decide)
  unfold F_M_drawBelow ck0
  rw [if_neg e1]
  rfl
def zs (z : Int32) : Nat → Int32
  | 0 => z
  | k + 1 => zst (zs z k)
def wl (go wt : Nat → Int32) (n : Nat) (z : Int32) (k : Nat) : Int32 := LK go wt (dwn n (zs z (k + 1)))
def wes (N : Nat) (go wt : Nat → Int32) (n : Nat) (z : Int32) (s i : Nat) : Int32 := wl go wt n z (N * s + i)
theorem wes_or (N : Nat) (go wt : Nat → Int32) (n : Nat) (z : Int32) (s i : Nat) : wes N go wt n z s i = -9 ∨ ∃ w, w < 6 ∧ wes N go wt n z s i = nI w := LK_or go wt _
theorem zs_s (z : Int32) (k : Nat) : zs z (k + 1) = zst (zs z k) := rfl
theorem wl_eq (go wt : Nat → Int32) (n : Nat) (z : Int32) (k : Nat) : wl go wt n z k = LK go wt (dwn n (zst (zs z k))) := rfl
theorem wes_eq (N : Nat) (go wt : Nat → Int32) (n : Nat) (z : Int32) (s i : Nat) : wes N go wt n z s i = wl go wt n z (N * s + i) := rfl
def nns (go wt : Nat → Int32) (n : Nat) (z : Int32) : Nat → Nat
  | 0 => 0
  | k + 1 => if wl go wt n z k = -9 then nns go wt n z k + 1 else nns go wt n z k
def dns (N : Nat) (go wt lf wi : Nat → Int32) (n : Nat) (z : Int32) : Nat → Int32
  | 0 => 0
  | s + 1 => dns N go wt lf wi n z s + nI (gwc nsk (wes N go wt n z s) lf wi N)
def oLf (N : Nat) (h go wt lf wi : Nat → Int32) (n : Nat) (z : Int32) : Nat → Nat → Int32
  | 0 => h
  | s + 1 => cpf h (gwl nsk (wes N go wt n z s) lf wi N) 4
def oWi (h wi : Nat → Int32) : Nat → Nat → Int32
  | 0 => h
  | _ + 1 => cpf h wi 4
theorem oLf_cp (N : Nat) (h go wt lf wi : Nat → Int32) (n : Nat) (z : Int32) : ∀ s, cpf (oLf N h go wt lf wi n z s) lf 4 = cpf h lf 4
  | 0 => rfl
  | s + 1 => cpf_cpf _ _ _ _
theorem oWi_cp (h wi : Nat → Int32) : ∀ s, cpf (oWi h wi s) wi 4 = cpf h wi 4
  | 0 => rfl
  | s + 1 => cpf_cpf _ _ _ _
theorem ffw_9 (lf wi : Nat → Int32) : ffw lf wi (-9) = none := by
  refine fst1_none _ 4 0 (fun j _ hj => ?_)
  unfold ffo
  rw [hq_9]
  by_cases c : lf j ≤ 0
  · rw [if_pos c]
  · rw [if_neg c]
    rfl
theorem dns_s (N : Nat) (go wt lf wi : Nat → Int32) (n : Nat) (z : Int32) (s : Nat) : dns N go wt lf wi n z (s + 1) = dns N go wt lf wi n z s + nI (gwc nsk (wes N go wt n z s) lf wi N) := rfl
theorem oLf_s (N : Nat) (h go wt lf wi : Nat → Int32) (n : Nat) (z : Int32) (s : Nat) : oLf N h go wt lf wi n z (s + 1) = cpf h (gwl nsk (wes N go wt n z s) lf wi N) 4 := rfl
theorem oWi_s (h wi : Nat → Int32) (s : Nat) : oWi h wi (s + 1) = cpf h wi 4 := rfl
theorem C_summer {N : Nat} (hN : N = 10) {go : Nat → Int32} {n : Nat} (hn : n ≤ 8) (h hw wt lf wi : Nat → Int32) (z : Int32) (s : Nat) : wh (fun (s : (Int32) × (Int32) × (Int32) × (Int32) × (Nat → Int32)) => F_Har_summersByLot_L36 (nI n) go wt (cpf h lf 4, cpf hw wi 4) s.1 s.2.1 s.2.2.1 s.2.2.2.1 s.2.2.2.2) 400 (zs z (N * s), (0 : Int32), dns N go wt lf wi n z s, nI (nns go wt n z (N * s)), cpf h lf 4) = some (zs z (N * (s + 1)), dns N go wt lf wi n z (s + 1), nI (nns go wt n z (N * (s + 1))), cpf h (gwl nsk (wes N go wt n z s) lf wi N) 4) := by
  rw [dns_s, Nat.mul_succ]
  have e0 : (zs z (N * s), (0 : Int32), dns N go wt lf wi n z s, nI (nns go wt n z (N * s)), cpf h lf 4) = (zs z (N * s), (0 : Int32), dns N go wt lf wi n z s + 0, nI (nns go wt n z (N * s)), cpf h lf 4) := by rw [Int32.add_zero]
  rw [e0]
  refine wh_for (fun i => (zs z (N * s + i), nI i, dns N go wt lf wi n z s + nI (gwc nsk (wes N go wt n z s) lf wi i), nI (nns go wt n z (N * s + i)), cpf h (gwl nsk (wes N go wt n z s) lf wi i) 4)) N _ (fun i hi => ?_) ?_ 400 (by omega)
  · show F_Har_summersByLot_L36 (nI n) go wt (cpf h lf 4, cpf hw wi 4) (zs z (N * s + i)) (nI i) (dns N go wt lf wi n z s + nI (gwc nsk (wes N go wt n z s) lf wi i)) (nI (nns go wt n z (N * s + i))) (cpf h (gwl nsk (wes N go wt n z s) lf wi i) 4) = some (Sum.inl (zs z (N * s + i + 1), nI (i + 1), dns N go wt lf wi n z s + nI (gwc nsk (wes N go wt n z s) lf wi (i + 1)), nI (nns go wt n z (N * s + i + 1)), cpf h (gwl nsk (wes N go wt n z s) lf wi (i + 1)) 4))
    unfold F_Har_summersByLot_L36
    rw [if_neg (nleC 10 10 (show i < 10 by omega) (by omega) rfl), C_sets hn, Option.bind_some, C_drawn hn, Option.bind_some, C_by, Option.bind_some, gwc, gwl, nns, if_neg (nsk_n i), if_neg (nsk_n i), nI_1, zs_s, wes_eq, wl_eq]
    show (if LK go wt (dwn n (zst (zs z (N * s + i)))) = -9 then some (Sum.inl (zst (zs z (N * s + i)), _)) else (F_Fld_work _ _ (LK go wt (dwn n (zst (zs z (N * s + i)))))).bind (fun q_10 => if q_10.1 < 0 then some (Sum.inl (zst (zs z (N * s + i)), _)) else some (Sum.inl (zst (zs z (N * s + i)), _)))) = _
    by_cases c : LK go wt (dwn n (zst (zs z (N * s + i)))) = -9
    · rw [if_pos c, if_pos c, c, ffw_9, spl_n (ffw_9 _ _), nI_1]
      rfl
    · rw [if_neg c, if_neg c, C_work, Option.bind_some, ffw_cp, spl_cp]
      cases e : ffw (gwl nsk (wes N go wt n z s) lf wi i) wi (LK go wt (dwn n (zst (zs z (N * s + i))))) with
      | none => rfl
      | some f =>
        obtain ⟨h4, -, -⟩ := ffw_in e
        show (if nI f < 0 then _ else some (Sum.inl (_, _, dns N go wt lf wi n z s + nI (gwc nsk (wes N go wt n z s) lf wi i) + 1, _))) = _
        rw [if_neg (nI_ge0 (by omega)), Int32.add_assoc, nI_1]
        rfl
  · show F_Har_summersByLot_L36 (nI n) go wt (cpf h lf 4, cpf hw wi 4) _ (nI N) _ _ _ = _
    unfold F_Har_summersByLot_L36
    rw [if_pos (by rw [hN]; decide)]
