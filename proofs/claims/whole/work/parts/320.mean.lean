theorem wh_inl {σ ρ : Type} {f : σ → Option (σ ⊕ ρ)} {n : Nat} {s s' : σ} (e : f s = some (.inl s')) : wh f (n + 1) s = wh f n s' := by
  rw [wh]
  rw [e]
theorem L_pos {a : Nat} (h : 1 ≤ a) (h2 : a < 2 ^ 31) : ¬ lg_cmp (Int32.toInt64 (nI a)) 0 ≤ 0 := by
  rw [lg_cmp_le, Int64.le_iff_toInt_le, L_toInt h2, show (0 : Int64).toInt = 0 by decide +kernel]
  omega
theorem L_ne {a : Nat} (h : 1 ≤ a) (h2 : a < 2 ^ 31) : ¬ lg_cmp (Int32.toInt64 (nI a)) 0 = 0 := by
  intro e
  exact L_pos h h2 (by rw [e]; decide)
theorem L_ck {α : Type} {a : Nat} (h : 1 ≤ a) (h2 : a < 2 ^ 31) (k : Option α) : ck0L (Int32.toInt64 (nI a)) k = k := by
  unfold ck0L
  rw [if_neg]
  intro e
  exact L_ne h h2 (by rw [e]; decide)
theorem gcd_two {a b : Nat} (ha : a < 2 ^ 31) (hb : 1 ≤ b) (hb8 : b ≤ 8) : ∃ g, 1 ≤ g ∧ g ≤ 8 ∧ F_M_divisor (Int32.toInt64 (nI a)) (Int32.toInt64 (nI b)) = some (Int32.toInt64 (nI g)) ∧ F_Frc_greatestShared (Int32.toInt64 (nI a)) (Int32.toInt64 (nI b)) = some (Int32.toInt64 (nI g)) := by
  have hm : a % b < b := Nat.mod_lt _ (by omega)
  obtain ⟨g, g1, g2, g3⟩ := gcd_fin ⟨b, by omega⟩ ⟨a % b, by omega⟩ hb hm
  refine ⟨g.val, g1, by omega, ?_, ?_⟩
  · have e : F_M_divisor_L6 (Int32.toInt64 (nI a)) (Int32.toInt64 (nI b)) = some (Sum.inl (Int32.toInt64 (nI b), Int32.toInt64 (nI (a % b)))) := by
      unfold F_M_divisor_L6
      rw [if_neg (L_ne hb (by omega)), L_ck hb (by omega), L_mod ha hb (by omega)]
    have e2 : wh (fun (s : (Int64) × (Int64)) => F_M_divisor_L6 s.1 s.2) 400 (Int32.toInt64 (nI a), Int32.toInt64 (nI b)) = some (Int32.toInt64 (nI g.val)) :=
      (wh_inl (n := 399) (f := fun (s : (Int64) × (Int64)) => F_M_divisor_L6 s.1 s.2) (s := (Int32.toInt64 (nI a), Int32.toInt64 (nI b))) e).trans g2
    unfold F_M_divisor
    rw [e2]
    rfl
  · have e : F_Frc_greatestShared_L9 (Int32.toInt64 (nI a)) (Int32.toInt64 (nI b)) 0 = some (Sum.inl (Int32.toInt64 (nI b), Int32.toInt64 (nI (a % b)), 1)) := by
      unfold F_Frc_greatestShared_L9
      rw [if_neg (by decide), if_neg (L_ne hb (by omega)), L_ck hb (by omega), L_mod ha hb (by omega)]
      rfl
    have e2 : wh (fun (s : (Int64) × (Int64) × (Int32)) => F_Frc_greatestShared_L9 s.1 s.2.1 s.2.2) 400 (Int32.toInt64 (nI a), Int32.toInt64 (nI b), (0 : Int32)) = some (Int32.toInt64 (nI g.val)) :=
      (wh_inl (n := 399) (f := fun (s : (Int64) × (Int64) × (Int32)) => F_Frc_greatestShared_L9 s.1 s.2.1 s.2.2) (s := (Int32.toInt64 (nI a), Int32.toInt64 (nI b), (0 : Int32))) e).trans g3
    unfold F_Frc_greatestShared
    rw [e2]
    rfl
theorem frac8 {v a b : Nat} (hv : v < 2) (ha : a < 2 ^ 31) (hb8 : b ≤ 8) (h0 : b = 0 → a = 0) : ∃ q r, F_Frc_become (Int32.toInt64 (nI a)) (Int32.toInt64 (nI b)) = some q ∧ F_Frc_told q.1 q.2 (nI v) = some r ∧ F_M_partOf (Int32.toInt64 (nI a)) (Int32.toInt64 (nI b)) (nI v) = some r := by
  by_cases a0 : a = 0
  · subst a0
    rcases (show v = 0 ∨ v = 1 by omega) with rfl | rfl
    · exact ⟨(0, 1), 0, rfl, rfl, rfl⟩
    · exact ⟨(0, 1), 1, rfl, rfl, rfl⟩
  · have hb1 : 1 ≤ b := by omega
    have ha1 : 1 ≤ a := by omega
    obtain ⟨g, g1, g2, g3, g4⟩ := gcd_two ha hb1 hb8
    have eB : F_Frc_become (Int32.toInt64 (nI a)) (Int32.toInt64 (nI b)) = some (Int32.toInt64 (nI a) / Int32.toInt64 (nI g), Int32.toInt64 (nI b) / Int32.toInt64 (nI g)) := by
      unfold F_Frc_become
      rw [if_neg (L_pos ha1 ha), if_neg (L_pos hb1 (by omega)), g4, Option.bind_some, if_neg (L_pos g1 (by omega)), L_ck g1 (by omega), L_ck g1 (by omega)]
    rcases (show v = 0 ∨ v = 1 by omega) with rfl | rfl
    · refine ⟨_, Int32.toInt64 (nI a) / Int32.toInt64 (nI g), eB, rfl, ?_⟩
      unfold F_M_partOf
      rw [if_neg (L_ne ha1 ha), g3, Option.bind_some, if_pos (show nI 0 = 0 from rfl), L_ck g1 (by omega)]
    · refine ⟨_, Int32.toInt64 (nI b) / Int32.toInt64 (nI g), eB, rfl, ?_⟩
      unfold F_M_partOf
      rw [if_neg (L_ne ha1 ha), g3, Option.bind_some, if_neg (show ¬ nI 1 = 0 by decide), L_ck g1 (by omega)]
