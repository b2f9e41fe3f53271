-- the best teller
theorem nI_ne9 {b : Nat} (h : b < 2 ^ 31) : ¬ nI b = -9 := by
  intro e2
  have h2 := congrArg Int32.toInt e2
  rw [nI_toInt h, show (-9 : Int32).toInt = -9 by decide +kernel] at h2
  omega
theorem wsm_nI {wt : Nat → Int32} (hw : ∀ j, j < 6 → ∃ x, x ≤ 9 ∧ wt j = nI x) (x : Int32) : ∀ t, t ≤ 6 → ∃ s, s ≤ 9 * t ∧ wsm wt x t = nI s
  | 0, _ => ⟨0, by omega, rfl⟩
  | t + 1, ht => by
    obtain ⟨s, h1, h2⟩ := wsm_nI hw x t (by omega)
    cases hb : bt x t
    · exact ⟨s, by omega, by rw [wsm_n hb, h2]⟩
    · obtain ⟨v, h3, h4⟩ := hw t (by omega)
      refine ⟨s + v, by omega, ?_⟩
      rw [wsm_y hb, h2, h4]
      apply Int32.toInt_inj.mp
      rw [nI_toInt (by omega), Int32.toInt_add, nI_toInt (by omega), nI_toInt (by omega), show ((s : Int) + (v : Int)).bmod (2 ^ 32) = (s : Int) + v by apply Int.bmod_eq_of_le <;> omega]
      omega
def tlf (go wt : Nat → Int32) (t : Nat) : Int32 := if 0 ≤ wsm wt (go t) 6 - wsm wt ((63 : Int32) &&& (go t ^^^ (-1))) 6 then wsm wt (go t) 6 - wsm wt ((63 : Int32) &&& (go t ^^^ (-1))) 6 else -(wsm wt (go t) 6 - wsm wt ((63 : Int32) &&& (go t ^^^ (-1))) 6)
theorem tlf_ge {go wt : Nat → Int32} (hw : ∀ j, j < 6 → ∃ x, x ≤ 9 ∧ wt j = nI x) (t : Nat) : ¬ tlf go wt t < 0 := by
  obtain ⟨a, ha, ea⟩ := wsm_nI hw (go t) 6 (by omega)
  obtain ⟨b, hb, eb⟩ := wsm_nI hw ((63 : Int32) &&& (go t ^^^ (-1))) 6 (by omega)
  unfold tlf
  rw [ea, eb]
  have key : ∀ (a b : Fin 55), ¬ (if 0 ≤ nI a.val - nI b.val then nI a.val - nI b.val else -(nI a.val - nI b.val)) < 0 := by decide +kernel
  exact key ⟨a, by omega⟩ ⟨b, by omega⟩
def tls (go wt : Nat → Int32) : Nat → Option (Nat × Int32)
  | 0 => none
  | t + 1 => match tls go wt t with
    | none => some (t, tlf go wt t)
    | some (b, d) => if d ≤ tlf go wt t then some (b, d) else some (t, tlf go wt t)
theorem tls_ok {go wt : Nat → Int32} (hw : ∀ j, j < 6 → ∃ x, x ≤ 9 ∧ wt j = nI x) : ∀ t b d, tls go wt t = some (b, d) → b < t ∧ ¬ d < 0
  | 0, b, d, h => by cases h
  | t + 1, b, d, h => by
    unfold tls at h
    cases e : tls go wt t with
    | none =>
      rw [e] at h
      cases h
      exact ⟨by omega, tlf_ge hw t⟩
    | some p =>
      obtain ⟨b2, d2⟩ := p
      rw [e] at h
      have h' : (if d2 ≤ tlf go wt t then some (b2, d2) else some (t, tlf go wt t)) = some (b, d) := h
      by_cases c : d2 ≤ tlf go wt t
      · rw [if_pos c] at h'
        cases h'
        have := tls_ok hw t b d e
        exact ⟨by omega, this.2⟩
      · rw [if_neg c] at h'
        cases h'
        exact ⟨by omega, tlf_ge hw t⟩
def tlA (s : Option (Nat × Int32)) : Int32 := match s with | none => -9 | some p => nI p.1
def tlB (z : Int32) (s : Option (Nat × Int32)) : Int32 := match s with | none => z | some p => p.2
theorem C_tell {go wt : Nat → Int32} {n : Nat} (hn : n ≤ 8) (hw : ∀ j, j < 6 → ∃ x, x ≤ 9 ∧ wt j = nI x) : F_Set_bestTeller (nI n) go wt = some (tlA (tls go wt n)) := by
  unfold F_Set_bestTeller
  refine (wh_forB (fun i => (tlA (tls go wt i), tlB 0 (tls go wt i), nI i)) n (tlA (tls go wt n)) 400 (by omega) (fun i hi => ?_) ?_).trans rfl
  · show F_Set_bestTeller_L7 (nI n) go wt (tlA (tls go wt i)) (tlB 0 (tls go wt i)) (nI i) = some (Sum.inl (tlA (tls go wt (i + 1)), tlB 0 (tls go wt (i + 1)), nI (i + 1)))
    unfold F_Set_bestTeller_L7
    rw [if_neg (nleC 8 8 (Nat.lt_of_lt_of_le hi hn) (by omega) rfl), if_neg (nI_leN hi (by omega)), ck_nI _ (show i < 8 by omega) (by omega), nI_clamp (show i < 2 ^ 31 by omega), C_wsum, Option.bind_some, ck_nI _ (show i < 8 by omega) (by omega), C_wsum, Option.bind_some, nI_1, Int32.zero_sub]
    show (if tlA (tls go wt i) = -9 then some (Sum.inl (nI i, tlf go wt i, nI (i + 1))) else if tlB 0 (tls go wt i) ≤ tlf go wt i then _ else some (Sum.inl (nI i, tlf go wt i, nI (i + 1)))) = _
    have hok := tls_ok (go := go) hw i
    rw [tls]
    cases e : tls go wt i with
    | none => rfl
    | some p =>
      obtain ⟨b, d⟩ := p
      obtain ⟨h1, h2⟩ := hok b d e
      show (if nI b = -9 then _ else if d ≤ tlf go wt i then some (Sum.inl (nI b, d, nI (i + 1))) else some (Sum.inl (nI i, tlf go wt i, nI (i + 1)))) = some (Sum.inl (tlA (if d ≤ tlf go wt i then some (b, d) else some (i, tlf go wt i)), tlB 0 (if d ≤ tlf go wt i then some (b, d) else some (i, tlf go wt i)), nI (i + 1)))
      rw [if_neg (nI_ne9 (show b < 2 ^ 31 by omega))]
      by_cases c : d ≤ tlf go wt i
      · rw [if_pos c, if_pos c]; rfl
      · rw [if_neg c, if_neg c]; rfl
  · show F_Set_bestTeller_L7 (nI n) go wt _ _ (nI n) = _
    unfold F_Set_bestTeller_L7
    rw [if_pos (nI_le (Nat.le_refl n) (by omega))]
    split <;> rfl
theorem P_tell {hk : Int32} {th : Int32} {dy : Int32} {dn : Int32} {wt : Nat → Int32} {kd : Nat → Int32} {fg : Nat → Int32} {go : Nat → Int32} {hm : Nat → Int32} {wi : Nat → Int32} {lf : Nat → Int32} {kth : Int32} {kdy : Int32} {kdn : Int32} {kwt : Nat → Int32} {kkd : Nat → Int32} {kfg : Nat → Int32} {kgo : Nat → Int32} {khm : Nat → Int32} {kwi : Nat → Int32} {klf : Nat → Int32} {sc : Int32} {sg : Nat → Nat} {sp : Nat → Int32} {sl : Nat → Int32} {sb : Nat → Int32} {sf : Nat → Int32} {sd : Nat → Int32} {lc : Int32} {lt : Nat → Int32} {nc : Int32} {nu : Nat → Int32} {im : Nat → Int32} {tu : Nat → Int32} (hI : Inv th dy dn wt kd fg go hm wi lf hk kth kdy kdn kwt kkd kfg kgo khm kwi klf im sc sg sp sl sb sf sd tu lt lc nu nc) : ∃ (r : Int32) (m_thrown' : Int32), F_H_tell th go wt = some r ∧ F_M_tell th fg kd wt = some (r, m_thrown') := by
  obtain ⟨⟨n, m, q, hn, hm8, hq, rfl, rfl, rfl, hw, ht, hd, hf⟩, -⟩ := hI
  refine ⟨tlA (tls go wt n), 0, ?_, ?_⟩
  · unfold F_H_tell
    rw [C_tell hn hw]
    rfl
  · unfold F_M_tell
    refine (wh_forB (fun i => (tlA (tls go wt i), tlB (-1) (tls go wt i), nI i)) n (tlA (tls go wt n)) 400 (by omega) (fun i hi => ?_) ?_).trans rfl
    · show F_M_tell_L12 (nI n) fg kd wt (tlA (tls go wt i)) (tlB (-1) (tls go wt i)) (nI i) = some (Sum.inl (tlA (tls go wt (i + 1)), tlB (-1) (tls go wt (i + 1)), nI (i + 1)))
      unfold F_M_tell_L12
      rw [if_neg (nI_leN hi (by omega)), M_go hn ht hi, Option.bind_some, M_wsum, Option.bind_some, Option.bind_some, M_wsum, Option.bind_some]
      have e0 : ∀ (A B : Int32), (if (0 : Int32) ≤ wsm wt (go i) 6 - wsm wt ((63 : Int32) &&& (go i ^^^ (-1))) 6 then F_M_tell_J59_8 A B (nI i) (wsm wt (go i) 6 - wsm wt ((63 : Int32) &&& (go i ^^^ (-1))) 6) else F_M_tell_J59_8 A B (nI i) (-(wsm wt (go i) 6 - wsm wt ((63 : Int32) &&& (go i ^^^ (-1))) 6))) = F_M_tell_J59_8 A B (nI i) (tlf go wt i) := by
        intro A B
        unfold tlf
        split <;> rfl
      rw [e0]
      unfold F_M_tell_J59_8 F_M_tell_J71_13 F_M_tell_J76_10
      rw [nI_1]
      have hok := tls_ok (go := go) hw i
      rw [tls]
      cases e : tls go wt i with
      | none => rfl
      | some p =>
        obtain ⟨b, d⟩ := p
        obtain ⟨h1, h2⟩ := hok b d e
        show (if d < 0 then _ else if d ≤ tlf go wt i then (if d < 0 then _ else if d ≤ tlf go wt i then some (Sum.inl (nI b, d, nI (i + 1))) else _) else (if d < 0 then _ else if d ≤ tlf go wt i then _ else some (Sum.inl (nI i, tlf go wt i, nI (i + 1))))) = some (Sum.inl (tlA (if d ≤ tlf go wt i then some (b, d) else some (i, tlf go wt i)), tlB (-1) (if d ≤ tlf go wt i then some (b, d) else some (i, tlf go wt i)), nI (i + 1)))
        rw [if_neg h2]
        by_cases c : d ≤ tlf go wt i
        · rw [if_pos c, if_neg h2, if_pos c, if_pos c]; rfl
        · rw [if_neg c, if_neg h2, if_neg c, if_neg c]; rfl
    · show F_M_tell_L12 (nI n) fg kd wt _ _ (nI n) = _
      unfold F_M_tell_L12
      rw [if_pos (nI_le (Nat.le_refl n) (by omega))]
