-- order: the model's search
theorem M_fac {a : Nat} (h : a ≤ 8) : F_M_ordersOf (nI a) = some (nI (fac a)) := by
  have key : ∀ a : Fin 9, F_M_ordersOf (nI a.val) = some (nI (fac a.val)) := by decide +kernel
  exact key ⟨a, by omega⟩
theorem fac_le {a : Nat} (h : a ≤ 7) : fac a ≤ 5040 := by
  have key : ∀ a : Fin 8, fac a.val ≤ 5040 := by decide +kernel
  exact key ⟨a, by omega⟩
theorem rnk_0 : ∀ n, n ≤ 8 → rnk 0 n = n
  | 0, _ => rfl
  | n + 1, h => by
    have e : bt (nI 0) n = false := bt00 n (by omega)
    rw [rnk_n e, rnk_0 n (by omega)]
theorem M_L39 {u d : Nat} (hd : d < 8) (hb : bt (nI u) d = false) : wh (fun (s : (Int32) × (Int32)) => F_M_layOrder_L39 (nI u) s.1 s.2) 400 (nI (rnk u d), (0 : Int32)) = some (nI d) := by
  have r8 : rnk u d ≤ d := by
    have : ∀ n, rnk u n ≤ n := by
      intro n
      induction n with
      | zero => exact Nat.le_refl 0
      | succ n ih =>
        rw [rnk]
        split <;> omega
    exact this d
  have e : wh (fun (s : (Int32) × (Int32)) => F_M_layOrder_L39 (nI u) s.1 s.2) 400 (nI (rnk u d - rnk u 0), nI 0) = some (nI d) := by
    refine wh_for (fun i => (nI (rnk u d - rnk u i), nI i)) d (nI d) (fun i hi => ?_) ?_ 400 (by omega)
    · show F_M_layOrder_L39 (nI u) (nI (rnk u d - rnk u i)) (nI i) = some (Sum.inl (nI (rnk u d - rnk u (i + 1)), nI (i + 1)))
      unfold F_M_layOrder_L39 F_M_layOrder_J54_9
      rw [hasBit_bt, Option.bind_some, Option.bind_some, nI_1]
      cases hi2 : bt (nI u) i
      · have h1 := rnk_lt hi2 hi
        rw [if_pos (by decide), if_neg (show ¬ nI (rnk u d - rnk u i) ≤ 0 by rw [i32_le, nI_toInt (by omega), Int32.toInt_zero]; omega), if_pos (by decide), sub1 (by omega), rnk_n hi2, Nat.sub_sub]
      · rw [if_neg (by decide), if_neg (by decide), rnk_y hi2, Int32.sub_zero]
    · show F_M_layOrder_L39 (nI u) (nI (rnk u d - rnk u d)) (nI d) = _
      unfold F_M_layOrder_L39
      rw [hasBit_bt, Option.bind_some, hb, if_pos (by decide), if_pos (show nI (rnk u d - rnk u d) ≤ 0 by rw [i32_le, nI_toInt (by omega), Int32.toInt_zero]; omega)]
  exact e
theorem sh_or {u d : Nat} (hu : u < 256) (hd : d < 8) : nI u ||| ((1 : Int32) <<< ((nI d : Int32) &&& 31)) = nI (u ||| 2 ^ d) := by
  rw [shl_4 hd]
  have h2 : 2 ^ d < 2 ^ 8 := Nat.pow_lt_pow_right (by omega) hd
  exact or_nI hu h2
theorem sel_at {m r u c : Nat} (hm8 : m ≤ 8) (hk : rnk u m = r + 1) (hc : c < fac (r + 1)) : ∃ d, d < m ∧ bt (nI u) d = false ∧ rnk u d = c / fac r ∧ selR u (c / fac r) 8 = d := by
  have f1 := fac_pos r
  have h1 : c / fac r < r + 1 := by
    rw [fac] at hc
    exact Nat.div_lt_of_lt_mul (by rw [Nat.mul_comm]; exact hc)
  obtain ⟨d, d1, d2, d3⟩ := rnk_sur (u := u) m (show c / fac r < rnk u m by omega)
  exact ⟨d, d1, d2, d3, by rw [← d3]; exact selR_eq d2 8 (by omega)⟩
theorem M_layr {m : Nat} (hm : m ≤ 7) : ∀ (r u c : Nat) (pa : Nat → Nat) (o : Nat → Int32) (N : Nat), r ≤ m → u < 256 → rnk u m = r → c < fac r → (∀ i, i < m - r → o i = nI (pa i)) → ∃ o', wh (fun (s : (Int32) × (Int32) × (Int32) × (Nat → Int32)) => F_M_layOrder_L8 (nI m) s.1 s.2.1 s.2.2.1 s.2.2.2) (r + 1 + N) (nI c, nI u, nI (m - r), o) = some o' ∧ ∀ i, i < m → o' i = nI (lay m r u c pa i)
  | 0, u, c, pa, o, N, hr, hu, hk, hc, ho => by
    refine ⟨o, ?_, ho⟩
    rw [show 0 + 1 + N = N + 1 by omega]
    refine wh_inr ?_
    show F_M_layOrder_L8 (nI m) (nI c) (nI u) (nI (m - 0)) o = _
    unfold F_M_layOrder_L8
    rw [if_pos (nI_le (by omega) (by omega))]
  | r + 1, u, c, pa, o, N, hr, hu, hk, hc, ho => by
    obtain ⟨d, d1, d2, d3, d4⟩ := sel_at (show m ≤ 8 by omega) hk hc
    have f1 := fac_pos r
    have f2 := fac_le (show r ≤ 7 by omega)
    have f3 := fac_le (show r + 1 ≤ 7 by omega)
    have hk2 : rnk (u ||| 2 ^ d) m = r := by
      have := rnk_hi hu (show d < 8 by omega) d2 m d1 (by omega)
      omega
    obtain ⟨o', o1, o2⟩ := M_layr hm r (u ||| 2 ^ d) (c % fac r) (updn pa (m - (r + 1)) d) (upd o (m - (r + 1)) (nI d)) N (by omega) (or_lt hu (by omega)) hk2 (Nat.mod_lt _ (by omega)) (fun i hi => by
      by_cases ci : i = m - (r + 1)
      · subst ci
        rw [updA, updn, if_pos rfl]
      · rw [updN _ _ ci, updn, if_neg ci]
        exact ho i (by omega))
    refine ⟨o', ?_, ?_⟩
    · rw [show r + 1 + 1 + N = (r + 1 + N) + 1 by omega]
      refine (wh_inl ?_).trans o1
      show F_M_layOrder_L8 (nI m) (nI c) (nI u) (nI (m - (r + 1))) o = _
      have e0 : nI m - 1 - nI (m - (r + 1)) = nI r := by
        rw [sub1 (by omega), nI_subS (by omega) (by omega)]
        congr 1
        omega
      have e1 : ∀ {α : Type} (k : Option α), ck0 (nI (fac r)) k = k := by
        intro α k
        unfold ck0
        rw [if_neg (neC 0 0 (show fac r ≠ 0 by omega) (by omega) (by omega) rfl)]
      unfold F_M_layOrder_L8
      rw [if_neg (nI_leN (by omega) (by omega)), e0, M_fac (by omega), Option.bind_some, e1, e1, D_mod (by omega) f1 (by omega), D_div (by omega) (by omega), ← d3, M_L39 (by omega) d2, Option.bind_some, ck_nI _ (show m - (r + 1) < 8 by omega) (by omega), nI_clamp (show m - (r + 1) < 2 ^ 31 by omega), sh_or hu (by omega), nI_1, show m - (r + 1) + 1 = m - r by omega]
    · intro i hi
      rw [o2 i hi, lay, d4]
theorem lay_lt {m : Nat} (hm8 : m ≤ 8) : ∀ (r u c : Nat) (pa : Nat → Nat), r ≤ m → u < 256 → rnk u m = r → c < fac r → (∀ i, i < m - r → pa i < m) → ∀ i, i < m → lay m r u c pa i < m
  | 0, u, c, pa, hr, hu, hk, hc, ho, i, hi => ho i hi
  | r + 1, u, c, pa, hr, hu, hk, hc, ho, i, hi => by
    obtain ⟨d, d1, d2, d3, d4⟩ := sel_at hm8 hk hc
    have f1 := fac_pos r
    have hk2 : rnk (u ||| 2 ^ d) m = r := by
      have := rnk_hi hu (show d < 8 by omega) d2 m d1 (by omega)
      omega
    rw [lay, d4]
    refine lay_lt hm8 r (u ||| 2 ^ d) (c % fac r) (updn pa (m - (r + 1)) d) (by omega) (or_lt hu (by omega)) hk2 (Nat.mod_lt _ (by omega)) (fun i hi => ?_) i hi
    rw [updn]
    split
    · exact d1
    · exact ho i (by omega)
def dsc (o : Nat → Option Nat) : Nat → Option Nat
  | 0 => none
  | i + 1 => match o (3 - i) with
    | some f => some f
    | none => dsc o i
theorem dsc4 (o : Nat → Option Nat) : dsc o 4 = fst1 o 0 4 := by
  have s1 : ∀ i, dsc o (i + 1) = match o (3 - i) with | some f => some f | none => dsc o i := fun _ => rfl
  have t1 : ∀ i k, fst1 o i (k + 1) = match o i with | some f => some f | none => fst1 o (i + 1) k := by
    intro i k
    rw [fst1]
    cases o i <;> rfl
  rw [s1 3, t1 0 3, Nat.sub_self]
  cases o 0 with
  | some f => rfl
  | none =>
    show dsc o 3 = fst1 o 1 3
    rw [s1 2, t1 1 2, show 3 - 2 = 1 from rfl]
    cases o 1 with
    | some f => rfl
    | none =>
      show dsc o 2 = fst1 o 2 2
      rw [s1 1, t1 2 1, show 3 - 1 = 2 from rfl]
      cases o 2 with
      | some f => rfl
      | none =>
        show dsc o 1 = fst1 o 3 1
        rw [s1 0, t1 3 0, Nat.sub_zero]
        cases o 3 with
        | some f => rfl
        | none => rfl
theorem M_L62 {lk od wi a lt : Nat → Int32} {j d : Nat} {W : Int32} (hj : j < 8) (hd : d < 8) (eo : od j = nI d) (el : lk d = W) (hW : W = -9 ∨ ∃ k, k < 6 ∧ W = nI k) : wh (fun (s : (Int32) × (Int32)) => F_M_doneBy_L62 lk od wi (cpf lt a 4) (nI j) s.1 s.2) 400 (((-9) : Int32), (3 : Int32)) = some (ixO (ffw a wi W)) := by
  rcases hW with hW | ⟨k, hk, hW⟩
  · have e : ffw a wi (-9) = none := by
      refine fst1_none _ 4 0 (fun j _ hj => ?_)
      unfold ffo
      rw [hq_9]
      split <;> rfl
    rw [hW, e]
    refine wh_inr (n := 399) ?_
    show F_M_doneBy_L62 lk od wi (cpf lt a 4) (nI j) (-9) 3 = _
    unfold F_M_doneBy_L62
    rw [nI_clamp (show j < 2 ^ 31 by omega), eo, nI_clamp (show d < 2 ^ 31 by omega), el, hW, if_neg (by decide), if_pos (by decide)]
    rfl
  · have e : wh (fun (s : (Int32) × (Int32)) => F_M_doneBy_L62 lk od wi (cpf lt a 4) (nI j) s.1 s.2) 400 (ixO (dsc (ffo a wi W) 0), if 0 ≤ 3 then nI (3 - 0) else -1) = some (ixO (dsc (ffo a wi W) 4)) := by
      refine wh_for (fun i => (ixO (dsc (ffo a wi W) i), if i ≤ 3 then nI (3 - i) else -1)) 4 (ixO (dsc (ffo a wi W) 4)) (fun i hi => ?_) ?_ 400 (by omega)
      · show F_M_doneBy_L62 lk od wi (cpf lt a 4) (nI j) (ixO (dsc (ffo a wi W) i)) (if i ≤ 3 then nI (3 - i) else -1) = some (Sum.inl (ixO (dsc (ffo a wi W) (i + 1)), if i + 1 ≤ 3 then nI (3 - (i + 1)) else -1))
        have e1 : nI (3 - i) + (-1) = if i + 1 ≤ 3 then nI (3 - (i + 1)) else -1 := by
          by_cases c : i + 1 ≤ 3
          · rw [if_pos c, show 3 - i = 3 - (i + 1) + 1 by omega, dec1]
          · rw [if_neg c, show 3 - i = 0 by omega]
            rfl
        unfold F_M_doneBy_L62
        rw [if_pos (show i ≤ 3 by omega), if_neg (nI_ge0 (show 3 - i < 2 ^ 31 by omega)), nI_clamp (show j < 2 ^ 31 by omega), eo, nI_clamp (show d < 2 ^ 31 by omega), el, hW, if_neg (nI_ge0 (show k < 2 ^ 31 by omega)), ck_nI _ (show 3 - i < 4 by omega) (by omega), nI_clamp (show 3 - i < 2 ^ 31 by omega), cpf_at (show 3 - i < 4 by omega), ck_nI _ (show 3 - i < 4 by omega) (by omega), hasBit_hq (show k < 31 by omega), Option.bind_some, e1, dsc]
        generalize (if i + 1 ≤ 3 then nI (3 - (i + 1)) else (-1 : Int32)) = z
        have ef : ffo a wi (nI k) (3 - i) = if a (3 - i) ≤ 0 then none else if hq (nI k) (wi (3 - i)) = true then some (3 - i) else none := rfl
        rw [ef]
        by_cases c1 : a (3 - i) ≤ 0
        · rw [if_pos c1, if_pos c1]
        · rw [if_neg c1, if_neg c1]
          cases c2 : hq (nI k) (wi (3 - i))
          · rw [if_pos (by decide), if_neg (by decide)]
          · rw [if_neg (by decide), if_pos rfl]
            rfl
      · rfl
    rw [dsc4] at e
    exact e
theorem M_done {m kk K : Nat} (hm8 : m ≤ 8) (hkk : kk ≤ 8) (hK : K = if m < kk then m else kk) {lk od wi lf lt : Nat → Int32} {W : Nat → Int32} {q : Nat → Nat} (ho : ∀ i, i < m → od i = nI (q i) ∧ q i < m) (hl : ∀ d, d < m → lk d = W d ∧ (W d = -9 ∨ ∃ k, k < 6 ∧ W d = nI k)) : F_M_doneBy (nI m) lf lt lk od wi (nI kk) = some (nI (wkq W lf wi K q), cpf lt (gwl nsk (fun i => W (q i)) lf wi K) 4) := by
  have hKm : K ≤ m ∧ K ≤ kk ∧ (m ≤ K ∨ kk ≤ K) := by
    rw [hK]
    split <;> omega
  have e1 : wh (fun (s : (Int32) × (Nat → Int32)) => F_M_doneBy_L2 lf s.1 s.2) 400 ((0 : Int32), cpf lt lf 0) = some (cpf lt lf 4) := by
    refine wh_for (fun i => (nI i, cpf lt lf i)) 4 (cpf lt lf 4) (fun i hi => ?_) ?_ 400 (by omega)
    · show F_M_doneBy_L2 lf (nI i) (cpf lt lf i) = some (Sum.inl (nI (i + 1), cpf lt lf (i + 1)))
      unfold F_M_doneBy_L2
      rw [if_neg (nleC 4 4 hi (by omega) rfl), ck_nI _ hi (by omega), ck_nI _ hi (by omega), nI_clamp (show i < 2 ^ 31 by omega), nI_1, cpf_s]
    · rfl
  rw [cpf_0] at e1
  have e2 : wh (fun (s : (Int32) × (Int32) × (Nat → Int32)) => F_M_doneBy_L29 (nI m) lk od wi (nI kk) s.1 s.2.1 s.2.2) 400 ((0 : Int32), (0 : Int32), cpf lt lf 4) = some (nI (gwc nsk (fun i => W (q i)) lf wi K), cpf lt (gwl nsk (fun i => W (q i)) lf wi K) 4) := by
    refine wh_for (fun j => (nI (gwc nsk (fun i => W (q i)) lf wi j), nI j, cpf lt (gwl nsk (fun i => W (q i)) lf wi j) 4)) K (nI (gwc nsk (fun i => W (q i)) lf wi K), cpf lt (gwl nsk (fun i => W (q i)) lf wi K) 4) (fun j hj => ?_) ?_ 400 (by omega)
    · show F_M_doneBy_L29 (nI m) lk od wi (nI kk) (nI (gwc nsk (fun i => W (q i)) lf wi j)) (nI j) (cpf lt (gwl nsk (fun i => W (q i)) lf wi j) 4) = some (Sum.inl (nI (gwc nsk (fun i => W (q i)) lf wi (j + 1)), nI (j + 1), cpf lt (gwl nsk (fun i => W (q i)) lf wi (j + 1)) 4))
      obtain ⟨o1, o2⟩ := ho j (by omega)
      obtain ⟨l1, l2⟩ := hl (q j) o2
      have hf := M_L62 (wi := wi) (a := gwl nsk (fun i => W (q i)) lf wi j) (lt := lt) (show j < 8 by omega) (show q j < 8 by omega) o1 l1 l2
      unfold F_M_doneBy_L29
      rw [if_neg (nI_leN (show j < m by omega) (by omega)), if_neg (nI_leN (show j < kk by omega) (by omega)), ck_nI _ (show j < 8 by omega) (by omega), nI_clamp (show j < 2 ^ 31 by omega), o1, ck_nI _ (show q j < 8 by omega) (by omega), hf, Option.bind_some, gwc, gwl, if_neg (nsk_n j), if_neg (nsk_n j), nI_1]
      cases e : ffw (gwl nsk (fun i => W (q i)) lf wi j) wi (W (q j)) with
      | none =>
        rw [spl_n e]
        rfl
      | some f =>
        obtain ⟨h4, -, -⟩ := ffw_in e
        rw [spl_y e]
        show (if nI f < 0 then _ else ck (nI f) 4 (ck (nI f) 4 (some (Sum.inl (_, _, upd (cpf lt (gwl nsk (fun i => W (q i)) lf wi j) 4) (nI f).toNatClampNeg (cpf lt (gwl nsk (fun i => W (q i)) lf wi j) 4 (nI f).toNatClampNeg - 1)))))) = _
        rw [if_neg (nI_ge0 (by omega)), ck_nI _ h4 (by omega), ck_nI _ h4 (by omega), nI_clamp (show f < 2 ^ 31 by omega), cpf_at h4, upd_cp _ _ _ h4, nI_1]
        rfl
    · show F_M_doneBy_L29 (nI m) lk od wi (nI kk) _ (nI K) _ = _
      unfold F_M_doneBy_L29
      by_cases c : m ≤ K
      · rw [if_pos (nI_le c (by omega))]
      · rw [if_neg (nI_leN (by omega) (by omega)), if_pos (nI_le (by omega) (by omega))]
  unfold F_M_doneBy
  rw [e1, Option.bind_some, e2, Option.bind_some]
  rfl
