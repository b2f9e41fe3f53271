-- the odds: parts of a fraction
theorem frac_fin : ∀ (x : Fin 2) (a : Fin 10) (b : Fin 55), a.val ≤ b.val → ((F_Frc_become (Int32.toInt64 (nI a.val)) (Int32.toInt64 (nI b.val))).bind (fun q => F_Frc_told q.1 q.2 (nI x.val))) = F_M_partOf (Int32.toInt64 (nI a.val)) (Int32.toInt64 (nI b.val)) (nI x.val) ∧ (F_M_partOf (Int32.toInt64 (nI a.val)) (Int32.toInt64 (nI b.val)) (nI x.val)).isSome = true := by decide +kernel
theorem nI_addS {a b : Nat} (h : a + b < 2 ^ 31) : nI a + nI b = nI (a + b) := by
  apply Int32.toInt_inj.mp
  rw [nI_toInt h, Int32.toInt_add, nI_toInt (by omega), nI_toInt (by omega), show ((a : Int) + (b : Int)).bmod (2 ^ 32) = (a : Int) + b by apply Int.bmod_eq_of_le <;> omega]
  omega
theorem wsm_ge {wt : Nat → Int32} (hw : ∀ j, j < 6 → ∃ x, x ≤ 9 ∧ wt j = nI x) {x : Int32} {w a : Nat} (hb : bt x w = true) (ha : a ≤ 9) (ea : wt w = nI a) : ∀ t, w < t → t ≤ 6 → ∃ s, s ≤ 9 * t ∧ a ≤ s ∧ wsm wt x t = nI s
  | 0, h, _ => absurd h (by omega)
  | t + 1, h, h6 => by
    by_cases e : w = t
    · subst e
      obtain ⟨s, s1, s2⟩ := wsm_nI hw x w (by omega)
      exact ⟨s + a, by omega, by omega, by rw [wsm_y hb, s2, ea, nI_addS (by omega)]⟩
    · obtain ⟨s, s1, s2, s3⟩ := wsm_ge hw hb ha ea t (by omega) (by omega)
      cases hc : bt x t
      · exact ⟨s, by omega, s2, by rw [wsm_n hc, s3]⟩
      · obtain ⟨v, v1, v2⟩ := hw t (by omega)
        exact ⟨s + v, by omega, by omega, by rw [wsm_y hc, s3, v2, nI_addS (by omega)]⟩
theorem isP_y {v : Nat} (h : v < 2) : F_H_isPart (nI v) = some 1 := by
  rcases (show v = 0 ∨ v = 1 by omega) with rfl | rfl <;> rfl
theorem isP_n {x : Int32} (h : x < 0 ∨ (¬ x < 0 ∧ nI 2 ≤ x)) : F_H_isPart x = some 0 := by
  unfold F_H_isPart
  rw [if_neg (outC h 0 0 (by omega) (by omega) rfl), if_neg (outC h 1 1 (by omega) (by omega) rfl)]
theorem frac {v a b : Nat} (hv : v < 2) (ha : a ≤ 9) (hb : b ≤ 54) (hab : a ≤ b) : ∃ q r, F_Frc_become (Int32.toInt64 (nI a)) (Int32.toInt64 (nI b)) = some q ∧ F_Frc_told q.1 q.2 (nI v) = some r ∧ F_M_partOf (Int32.toInt64 (nI a)) (Int32.toInt64 (nI b)) (nI v) = some r := by
  obtain ⟨h1, h2⟩ := frac_fin ⟨v, hv⟩ ⟨a, by omega⟩ ⟨b, by omega⟩ hab
  obtain ⟨r, hr⟩ := Option.isSome_iff_exists.mp h2
  rw [hr] at h1
  cases e : F_Frc_become (Int32.toInt64 (nI a)) (Int32.toInt64 (nI b)) with
  | none =>
    have h3 : (F_Frc_become (Int32.toInt64 (nI a)) (Int32.toInt64 (nI b))).bind (fun q => F_Frc_told q.1 q.2 (nI v)) = some r := h1
    rw [e] at h3
    cases h3
  | some q =>
    have h3 : (F_Frc_become (Int32.toInt64 (nI a)) (Int32.toInt64 (nI b))).bind (fun q => F_Frc_told q.1 q.2 (nI v)) = some r := h1
    rw [e, Option.bind_some] at h3
    exact ⟨q, r, rfl, h3, hr⟩
