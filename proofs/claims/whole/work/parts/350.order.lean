-- order: the class's search
def mst (M : Nat) : Int32 := nI M - 1
theorem mst_toInt {M : Nat} (h : M < 2 ^ 30) : (mst M).toInt = (M : Int) - 1 := by
  unfold mst
  cases M with
  | zero => decide +kernel
  | succ M =>
    rw [← nI_1, Int32.add_sub_cancel, nI_toInt (by omega)]
    omega
theorem mst_le {a M : Nat} (h : M < 2 ^ 30) (ha : a < 2 ^ 30) : nI a ≤ mst M ↔ a + 1 ≤ M := by
  rw [i32_le, nI_toInt (by omega), mst_toInt h]
  omega
theorem mst_s (w : Nat) : mst (w + 1) = nI w := by
  unfold mst
  rw [← nI_1, Int32.add_sub_cancel]
theorem wh_ex {σ ρ : Type} {step : σ → Option (σ ⊕ ρ)} (R : Nat → σ → Prop) (Q : ρ → Prop) (n : Nat) (h1 : ∀ i, i < n → ∀ s, R i s → ∃ s', step s = some (Sum.inl s') ∧ R (i + 1) s') (h2 : ∀ s, R n s → ∃ r, step s = some (Sum.inr r) ∧ Q r) : ∀ k fuel i s, i + k = n → k < fuel → R i s → ∃ r, wh step fuel s = some r ∧ Q r
  | 0, fuel, i, s, hi, hf, hR => by
    obtain ⟨f, rfl⟩ : ∃ f, fuel = f + 1 := ⟨fuel - 1, by omega⟩
    obtain rfl : i = n := by omega
    obtain ⟨r, e, hq⟩ := h2 s hR
    exact ⟨r, wh_inr e, hq⟩
  | k + 1, fuel, i, s, hi, hf, hR => by
    obtain ⟨f, rfl⟩ : ∃ f, fuel = f + 1 := ⟨fuel - 1, by omega⟩
    obtain ⟨s', e, hR'⟩ := h1 i (by omega) s hR
    obtain ⟨r, e2, hq⟩ := wh_ex R Q n h1 h2 k f (i + 1) s' (by omega) (by omega) hR'
    exact ⟨r, (wh_inl e).trans e2, hq⟩
theorem gwl_cong {we we2 lf wi : Nat → Int32} : ∀ d, (∀ i, i < d → we i = we2 i) → gwl nsk we lf wi d = gwl nsk we2 lf wi d
  | 0, _ => rfl
  | d + 1, h => by
    rw [gwl, gwl, gwl_cong d (fun i hi => h i (by omega)), h d (by omega)]
theorem gwc_cong {we we2 lf wi : Nat → Int32} : ∀ d, (∀ i, i < d → we i = we2 i) → gwc nsk we lf wi d = gwc nsk we2 lf wi d
  | 0, _ => rfl
  | d + 1, h => by
    rw [gwc, gwc, gwc_cong d (fun i hi => h i (by omega)), gwl_cong d (fun i hi => h i (by omega)), h d (by omega)]
theorem gwc_step (we lf wi : Nat → Int32) (j : Nat) : ∀ n, gwc nsk we lf wi (j + n) ≤ gwc nsk we lf wi j + n
  | 0 => Nat.le_refl _
  | n + 1 => by
    have := gwc_step we lf wi j n
    rw [← Nat.add_assoc, gwc]
    split
    · omega
    · split <;> omega
theorem gwc_tot {we lf wi : Nat → Int32} {y : Nat → Nat} (hy : ∀ i, i < 4 → lf i = nI (y i) ∧ y i ≤ 9) : ∀ d, ∃ z : Nat → Nat, (∀ i, i < 4 → gwl nsk we lf wi d i = nI (z i) ∧ z i ≤ 9) ∧ gwc nsk we lf wi d + (z 0 + z 1 + z 2 + z 3) = y 0 + y 1 + y 2 + y 3
  | 0 => ⟨y, hy, Nat.zero_add _⟩
  | d + 1 => by
    obtain ⟨z, hz, hs⟩ := gwc_tot (we := we) (wi := wi) hy d
    rw [gwl, gwc, if_neg (nsk_n d), if_neg (nsk_n d)]
    cases e : ffw (gwl nsk we lf wi d) wi (we d) with
    | none =>
      rw [spl_n e]
      exact ⟨z, hz, hs⟩
    | some f =>
      obtain ⟨h4, h0, -⟩ := ffw_in e
      obtain ⟨hz1, hz2⟩ := hz f h4
      have h1 : 1 ≤ z f := by
        rw [hz1, i32_le, nI_toInt (by omega), Int32.toInt_zero] at h0
        omega
      rw [spl_y e, if_pos (show (some f).isSome = true from rfl)]
      refine ⟨updn z f (z f - 1), fun i hi => ?_, ?_⟩
      · by_cases c : i = f
        · subst c
          rw [updA, updn, if_pos rfl, hz1, sub1 h1]
          exact ⟨rfl, by omega⟩
        · rw [updN _ _ c, updn, if_neg c]
          exact hz i hi
      · unfold updn
        rcases (show f = 0 ∨ f = 1 ∨ f = 2 ∨ f = 3 by omega) with rfl | rfl | rfl | rfl
        · show gwc nsk we lf wi d + 1 + (z 0 - 1 + z 1 + z 2 + z 3) = _
          omega
        · show gwc nsk we lf wi d + 1 + (z 0 + (z 1 - 1) + z 2 + z 3) = _
          omega
        · show gwc nsk we lf wi d + 1 + (z 0 + z 1 + (z 2 - 1) + z 3) = _
          omega
        · show gwc nsk we lf wi d + 1 + (z 0 + z 1 + z 2 + (z 3 - 1)) = _
          omega
def kpB (u K : Nat) (B : Nat → Int32) : Nat → (Nat → Int32)
  | 0 => B
  | d + 1 => if bt (nI u) d = true then kpB u K B d else upd (kpB u K B d) (K + rnk u d) (nI d)
theorem kpB_lo (u K : Nat) (B : Nat → Int32) {i : Nat} (hi : i < K) : ∀ d, kpB u K B d i = B i
  | 0 => rfl
  | d + 1 => by
    rw [kpB]
    split
    · exact kpB_lo u K B hi d
    · rw [updN _ _ (by omega)]
      exact kpB_lo u K B hi d
theorem kpB_at (u K : Nat) (B : Nat → Int32) {e : Nat} (hb : bt (nI u) e = false) : ∀ d, e < d → kpB u K B d (K + rnk u e) = nI e
  | 0, h => absurd h (by omega)
  | d + 1, h => by
    rw [kpB]
    by_cases c : d = e
    · subst c
      rw [if_neg (by rw [hb]; decide), updA]
    · have ih := kpB_at u K B hb d (by omega)
      split
      · exact ih
      · have := rnk_lt hb (show e < d by omega)
        rw [updN _ _ (by omega)]
        exact ih
theorem C_keep {m K u : Nat} (hm8 : m ≤ 8) (hK : K ≤ m) (hk : K + rnk u m ≤ m) (b p : Nat → Int32) : F_Har_keepPath (nI K) (nI m) b p (nI u) = some (kpB u K (cpf b p K) m) := by
  have e1 : wh (fun (s : (Int32) × (Nat → Int32)) => F_Har_keepPath_L2 (nI K) p s.1 s.2) 400 ((0 : Int32), cpf b p 0) = some (nI K, cpf b p K) := by
    refine wh_for (fun i => (nI i, cpf b p i)) K (nI K, cpf b p K) (fun i hi => ?_) ?_ 400 (by omega)
    · show F_Har_keepPath_L2 (nI K) p (nI i) (cpf b p i) = some (Sum.inl (nI (i + 1), cpf b p (i + 1)))
      unfold F_Har_keepPath_L2
      rw [if_neg (nI_leN hi (by omega)), if_neg (nleC 8 8 (show i < 8 by omega) (by omega) rfl), ck_nI _ (show i < 8 by omega) (by omega), ck_nI _ (show i < 8 by omega) (by omega), nI_clamp (show i < 2 ^ 31 by omega), nI_1, cpf_s]
    · show F_Har_keepPath_L2 (nI K) p (nI K) (cpf b p K) = _
      unfold F_Har_keepPath_L2
      rw [if_pos (nI_le (Nat.le_refl K) (by omega))]
  rw [cpf_0] at e1
  have e2 : wh (fun (s : (Int32) × (Int32) × (Nat → Int32)) => F_Har_keepPath_L36 (nI m) (nI u) s.1 s.2.1 s.2.2) 400 (nI K, (0 : Int32), cpf b p K) = some (kpB u K (cpf b p K) m) := by
    refine wh_for (fun d => (nI (K + rnk u d), nI d, kpB u K (cpf b p K) d)) m (kpB u K (cpf b p K) m) (fun d hd => ?_) ?_ 400 (by omega)
    · show F_Har_keepPath_L36 (nI m) (nI u) (nI (K + rnk u d)) (nI d) (kpB u K (cpf b p K) d) = some (Sum.inl (nI (K + rnk u (d + 1)), nI (d + 1), kpB u K (cpf b p K) (d + 1)))
      unfold F_Har_keepPath_L36
      rw [if_neg (nI_leN hd (by omega)), holds_bt _ (show d < 31 by omega), Option.bind_some, nI_1, kpB]
      cases hb : bt (nI u) d
      · have := rnk_lt hb hd
        rw [if_pos (by decide), if_neg (nleC 8 8 (show K + rnk u d < 8 by omega) (by omega) rfl), ck_nI _ (show K + rnk u d < 8 by omega) (by omega), nI_clamp (show K + rnk u d < 2 ^ 31 by omega), nI_1, rnk_n hb, if_neg (show ¬ false = true by decide), ← Nat.add_assoc]
      · rw [if_neg (by decide), rnk_y hb, if_pos rfl]
    · show F_Har_keepPath_L36 (nI m) (nI u) _ (nI m) _ = _
      unfold F_Har_keepPath_L36
      rw [if_pos (nI_le (Nat.le_refl m) (by omega))]
  unfold F_Har_keepPath
  rw [e1, Option.bind_some, e2, Option.bind_some]
def wkq (W lf wi : Nat → Int32) (K : Nat) (q : Nat → Nat) : Nat := gwc nsk (fun i => W (q i)) lf wi K
theorem nI_subS {a b : Nat} (h : b ≤ a) (ha : a < 2 ^ 31) : nI a - nI b = nI (a - b) := by
  have e : nI a = nI (a - b) + nI b := by rw [nI_addS (by omega), Nat.sub_add_cancel h]
  rw [e, Int32.add_sub_cancel]
theorem or_nI {a b : Nat} (ha : a < 256) (hb : b < 256) : nI a ||| nI b = nI (a ||| b) := by
  have p4 : a ||| b < 2 ^ 8 := Nat.or_lt_two_pow (n := 8) ha hb
  apply Int32.toBitVec_inj.mp
  rw [Int32.toBitVec_or]
  apply BitVec.eq_of_toNat_eq
  rw [BitVec.toNat_or, nI_toNat (by omega), nI_toNat (by omega), nI_toNat (by omega)]
theorem gS_le {wk : (Nat → Nat) → Nat} (hw : ∀ q, wk q ≤ 8) (q : Nat → Nat) {S : Nat × (Nat → Nat)} (hS : S.1 ≤ 9) : (gS wk q S).1 ≤ 9 := by
  unfold gS
  split
  · exact Nat.succ_le_succ (hw q)
  · exact hS
theorem odE_le {wk : (Nat → Nat) → Nat} (hw : ∀ q, wk q ≤ 8) (m : Nat) : ∀ r u pa S, S.1 ≤ 9 → (odE wk m r u pa S).1 ≤ 9
  | 0, u, pa, S, h => gS_le hw pa h
  | r + 1, u, pa, S, h => by
    have key : ∀ d, (odL (fun d S => odE wk m r (u ||| 2 ^ d) (updn pa (m - (r + 1)) d) S) u d S).1 ≤ 9 := by
      intro d
      induction d with
      | zero => exact h
      | succ d ih =>
        rw [odL]
        split
        · exact ih
        · exact odE_le hw m r _ _ _ ih
    exact key m
