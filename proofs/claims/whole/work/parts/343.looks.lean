-- looks: the fewest that tell
def lkd (o : Nat → Int32) (cd : Nat → Bool) (h : Nat) : Nat → Nat
  | 0 => h
  | i + 1 => if cd (h - i) = true ∧ ¬ o (lkd o cd h i) < o (h - i) then h - i else lkd o cd h i
def lka (cd : Nat → Bool) : Nat → Option Nat
  | 0 => none
  | s + 1 => if cd s = true ∧ ¬ smB (lka cd s) ≤ bc (nI s) then some s else lka cd s
theorem lka_at (cd : Nat → Bool) : ∀ s, s ≤ 256 → (lka cd s = none ∧ ∀ j, j < s → cd j = false) ∨ ∃ b, b < s ∧ lka cd s = some b ∧ cd b = true ∧ ∀ j, j < s → cd j = true → bc (nI b) < bc (nI j) ∨ (bc (nI b) = bc (nI j) ∧ b ≤ j)
  | 0, _ => Or.inl ⟨rfl, fun j hj => absurd hj (by omega)⟩
  | s + 1, hs => by
    rw [lka]
    rcases lka_at cd s (by omega) with ⟨e, h⟩ | ⟨b, hb, e, h1, h2⟩
    · rw [e]
      have h9 : ¬ smB none ≤ bc (nI s) := bc_le (show s < 256 by omega)
      cases c : cd s
      · rw [if_neg (fun h => Bool.noConfusion h.1)]
        refine Or.inl ⟨rfl, fun j hj => ?_⟩
        by_cases ej : j = s
        · rw [ej]; exact c
        · exact h j (by omega)
      · rw [if_pos ⟨rfl, h9⟩]
        refine Or.inr ⟨s, by omega, rfl, c, fun j hj hc => ?_⟩
        by_cases ej : j = s
        · subst ej
          exact Or.inr ⟨rfl, Nat.le_refl _⟩
        · rw [h j (by omega)] at hc
          cases hc
    · rw [e]
      show (_ ∨ _)
      by_cases c : cd s = true ∧ ¬ smB (some b) ≤ bc (nI s)
      · rw [if_pos c]
        have c2 : ¬ bc (nI b) ≤ bc (nI s) := c.2
        rw [i32_le] at c2
        refine Or.inr ⟨s, by omega, rfl, c.1, fun j hj hc => ?_⟩
        by_cases ej : j = s
        · subst ej
          exact Or.inr ⟨rfl, Nat.le_refl _⟩
        · left
          rw [i32_lt]
          rcases h2 j (by omega) hc with h | ⟨h, -⟩
          · rw [i32_lt] at h
            omega
          · rw [← h]
            omega
      · rw [if_neg c]
        refine Or.inr ⟨b, by omega, rfl, h1, fun j hj hc => ?_⟩
        by_cases ej : j = s
        · subst ej
          have c2 : bc (nI b) ≤ bc (nI j) := by
            apply Decidable.byContradiction
            intro c2
            exact c ⟨hc, c2⟩
          by_cases d : bc (nI b) = bc (nI j)
          · exact Or.inr ⟨d, by omega⟩
          · left
            rw [i32_lt]
            rw [i32_le] at c2
            have : (bc (nI b)).toInt ≠ (bc (nI j)).toInt := fun e => d (Int32.toInt_inj.mp e)
            omega
        · exact h2 j (by omega) hc
theorem lkd_at {cd : Nat → Bool} {h : Nat} (hh : cd h = true) : ∀ i, i ≤ h + 1 → lkd (fun s => bc (nI s)) cd h i ≤ h ∧ cd (lkd (fun s => bc (nI s)) cd h i) = true ∧ ∀ j, j ≤ h → h + 1 ≤ j + i → cd j = true → bc (nI (lkd (fun s => bc (nI s)) cd h i)) < bc (nI j) ∨ (bc (nI (lkd (fun s => bc (nI s)) cd h i)) = bc (nI j) ∧ lkd (fun s => bc (nI s)) cd h i ≤ j)
  | 0, _ => ⟨Nat.le_refl h, hh, fun j h1 h2 => absurd h2 (by omega)⟩
  | i + 1, hi => by
    obtain ⟨a1, a2, a3⟩ := lkd_at hh i (by omega)
    rw [lkd]
    generalize lkd (fun s => bc (nI s)) cd h i = b at a1 a2 a3
    by_cases c : cd (h - i) = true ∧ ¬ bc (nI b) < bc (nI (h - i))
    · rw [if_pos c]
      have c2 := c.2
      rw [i32_lt] at c2
      refine ⟨by omega, c.1, fun j h1 h2 hc => ?_⟩
      by_cases ej : j = h - i
      · subst ej
        exact Or.inr ⟨rfl, Nat.le_refl _⟩
      · have hle : (bc (nI (h - i))).toInt ≤ (bc (nI j)).toInt := by
          rcases a3 j h1 (by omega) hc with h | ⟨h, -⟩
          · rw [i32_lt] at h
            omega
          · rw [← h]
            omega
        by_cases d : (bc (nI (h - i))).toInt = (bc (nI j)).toInt
        · exact Or.inr ⟨Int32.toInt_inj.mp d, by omega⟩
        · left
          rw [i32_lt]
          omega
    · rw [if_neg c]
      refine ⟨a1, a2, fun j h1 h2 hc => ?_⟩
      by_cases ej : j = h - i
      · subst ej
        left
        apply Decidable.byContradiction
        intro c2
        exact c ⟨hc, c2⟩
      · exact a3 j h1 (by omega) hc
theorem lk_eq {cd : Nat → Bool} {h N : Nat} (hN : N ≤ 256) (hh : h < N) (hc : cd h = true) (hle : ∀ j, j < N → cd j = true → j ≤ h) : lka cd N = some (lkd (fun s => bc (nI s)) cd h (h + 1)) := by
  obtain ⟨a1, a2, a3⟩ := lkd_at hc (h + 1) (Nat.le_refl _)
  generalize lkd (fun s => bc (nI s)) cd h (h + 1) = r at a1 a2 a3
  rcases lka_at cd N hN with ⟨e, h0⟩ | ⟨b, hb, e, h1, h2⟩
  · rw [h0 h hh] at hc
    cases hc
  · rw [e]
    have h3 := h2 r (by omega) a2
    have h4 := a3 b (hle b hb h1) (by omega) h1
    congr 1
    rw [i32_lt] at h3 h4
    rcases h3 with h3 | ⟨h3, h5⟩
    · rcases h4 with h4 | ⟨h4, h6⟩
      · omega
      · rw [h4] at h3
        omega
    · rcases h4 with h4 | ⟨h4, h6⟩
      · rw [h3] at h4
        omega
      · omega
theorem sub_le {j h : Nat} (hj : j < 256) (hh : h < 256) (e : (nI j &&& (nI h ^^^ (-1))) = 0) : j ≤ h := by
  have e3 : (nI j).toBitVec &&& ((nI h).toBitVec ^^^ BitVec.allOnes 32) = 0#32 := congrArg Int32.toBitVec e
  have e2 : nI j &&& nI h = nI j := by
    apply Int32.toBitVec_inj.mp
    rw [Int32.toBitVec_and]
    apply BitVec.eq_of_getLsbD_eq
    intro i hi
    have e4 := congrArg (fun b => b.getLsbD i) e3
    have e5 : ((nI j).toBitVec.getLsbD i && ((nI h).toBitVec.getLsbD i ^^ true)) = false := by
      have h1 : ((nI j).toBitVec &&& ((nI h).toBitVec ^^^ BitVec.allOnes 32)).getLsbD i = (0#32).getLsbD i := e4
      rw [BitVec.getLsbD_and, BitVec.getLsbD_xor, BitVec.getLsbD_allOnes, BitVec.getLsbD_zero, decide_eq_true hi] at h1
      exact h1
    rw [BitVec.getLsbD_and]
    cases a : (nI j).toBitVec.getLsbD i
    · rfl
    · rw [a] at e5
      cases b : (nI h).toBitVec.getLsbD i
      · rw [b] at e5
        cases e5
      · rfl
  have e6 := congrArg (fun x : Int32 => x.toBitVec.toNat) e2
  have h7 : j &&& h ≤ h := Nat.and_le_right
  have e7 : (nI j &&& nI h).toBitVec.toNat = (nI j).toBitVec.toNat := e6
  rw [Int32.toBitVec_and, BitVec.toNat_and, nI_toNat (by omega), nI_toNat (by omega)] at e7
  omega
theorem sub_self0 {h : Nat} (hh : h < 256) : (nI h &&& (nI h ^^^ (-1))) = 0 := by
  have key : ∀ h : Fin 256, (nI h.val &&& (nI h.val ^^^ (-1))) = 0 := by decide +kernel
  exact key ⟨h, hh⟩
def lkc (go : Nat → Int32) (h : Nat) : Nat → Bool := fun s => decide ((nI s &&& (nI h ^^^ (-1))) = 0) && decide (CB go (nI s) = CB go (nI h))
theorem C_looks {go : Nat → Int32} {n h : Nat} (hn : n ≤ 8) : F_Set_fewest (nI n) go (nI h) (CB go (nI h)) = some (smA (lka (lkc go h) (2 ^ n))) := by
  obtain ⟨p1, p2⟩ := pow_le hn
  unfold F_Set_fewest
  refine (wh_forB (fun i => (smA (lka (lkc go h) i), smB (lka (lkc go h) i), nI i)) (2 ^ n) (smA (lka (lkc go h) (2 ^ n))) 400 (by omega) (fun i hi => ?_) ?_).trans rfl
  · show F_Set_fewest_L10 (nI n) go (nI h) (CB go (nI h)) (smA (lka (lkc go h) i)) (smB (lka (lkc go h) i)) (nI i) = some (Sum.inl (smA (lka (lkc go h) (i + 1)), smB (lka (lkc go h) (i + 1)), nI (i + 1)))
    unfold F_Set_fewest_L10
    rw [C_sets hn, Option.bind_some, if_neg (show ¬ nI (2 ^ n - 1) < nI i by rw [i32_lt, nI_toInt (by omega), nI_toInt (by omega)]; omega), J_bc, Option.bind_some, C_could, Option.bind_some, Option.bind_some, nI_1, lka]
    show (if (nI i &&& (nI h ^^^ (-1))) = 0 then (if smB (lka (lkc go h) i) ≤ bc (nI i) then _ else if CB go (nI i) = CB go (nI h) then some (Sum.inl (nI i, bc (nI i), nI (i + 1))) else _) else _) = _
    by_cases c1 : (nI i &&& (nI h ^^^ (-1))) = 0
    · rw [if_pos c1]
      by_cases c2 : smB (lka (lkc go h) i) ≤ bc (nI i)
      · rw [if_pos c2, if_neg (fun h => h.2 c2)]
      · rw [if_neg c2]
        by_cases c3 : CB go (nI i) = CB go (nI h)
        · have c4 : lkc go h i = true := by
            unfold lkc
            rw [decide_eq_true c1, decide_eq_true c3]
            rfl
          rw [if_pos c3, if_pos ⟨c4, c2⟩]
          rfl
        · have c4 : ¬ lkc go h i = true := by
            unfold lkc
            rw [decide_eq_true c1, decide_eq_false c3]
            decide
          rw [if_neg c3, if_neg (fun h => c4 h.1)]
    · have c4 : ¬ lkc go h i = true := by
        unfold lkc
        rw [decide_eq_false c1]
        exact fun e => Bool.false_ne_true e
      rw [if_neg c1, if_neg (fun h => c4 h.1)]
  · show F_Set_fewest_L10 (nI n) go (nI h) (CB go (nI h)) _ _ (nI (2 ^ n)) = _
    unfold F_Set_fewest_L10
    rw [C_sets hn, Option.bind_some, if_pos (nI_lt (by omega) (by omega))]
theorem dec1 (k : Nat) : nI (k + 1) + (-1) = nI k := by
  rw [← nI_1, Int32.add_assoc]
  exact Int32.add_zero _
theorem P_looks {hk : Int32} {th : Int32} {dy : Int32} {dn : Int32} {wt : Nat → Int32} {kd : Nat → Int32} {fg : Nat → Int32} {go : Nat → Int32} {hm : Nat → Int32} {wi : Nat → Int32} {lf : Nat → Int32} {kth : Int32} {kdy : Int32} {kdn : Int32} {kwt : Nat → Int32} {kkd : Nat → Int32} {kfg : Nat → Int32} {kgo : Nat → Int32} {khm : Nat → Int32} {kwi : Nat → Int32} {klf : Nat → Int32} {sc : Int32} {sg : Nat → Nat} {sp : Nat → Int32} {sl : Nat → Int32} {sb : Nat → Int32} {sf : Nat → Int32} {sd : Nat → Int32} {lc : Int32} {lt : Nat → Int32} {nc : Int32} {nu : Nat → Int32} {rf : Nat → Int32} {im : Nat → Int32} {tu : Nat → Int32} (hI : Inv th dy dn wt kd fg go hm wi lf hk kth kdy kdn kwt kkd kfg kgo khm kwi klf im sc sg sp sl sb sf sd tu lt lc nu nc) (x1 : Int32) : ∃ (r : Int32) (rf' : Nat → Int32) (m_thrown' : Int32), F_H_looks dy th go hm rf x1 = some (r, rf') ∧ F_M_looks dy th fg hm kd rf x1 = some (r, m_thrown', rf') := by
  obtain ⟨⟨n, m, q, hn, hm8, hq, rfl, rfl, rfl, hw, ht, hd, hf⟩, -⟩ := hI
  obtain ⟨p1, p2⟩ := pow_le hn
  rcases inR x1 m (by omega) with ⟨d, hdm, rfl⟩ | h
  · obtain ⟨h, hh, eh⟩ := hd d hdm
    have h256 : h < 256 := by omega
    have hself : lkc go h h = true := by
      unfold lkc
      rw [decide_eq_true (sub_self0 h256), decide_eq_true rfl]
      rfl
    refine ⟨nI (lkd (fun s => bc (nI s)) (lkc go h) h (h + 1)), rf, 0, ?_, ?_⟩
    · have e := lk_eq (cd := lkc go h) p1 hh hself (fun j hj hc => by
        have hc' : (decide ((nI j &&& (nI h ^^^ (-1))) = 0) && decide (CB go (nI j) = CB go (nI h))) = true := hc
        rw [Bool.and_eq_true] at hc'
        exact sub_le (by omega) h256 (of_decide_eq_true hc'.1))
      have e2 := C_looks (go := go) (n := n) (h := h) hn
      rw [e] at e2
      unfold F_H_looks
      rw [hasD_y hdm hm8, Option.bind_some, if_neg (by decide), ck_nI _ (show d < 8 by omega) (by omega), nI_clamp (show d < 2 ^ 31 by omega), eh, C_could, Option.bind_some]
      show (F_Set_fewest (nI n) go (nI h) (CB go (nI h))).bind _ = _
      rw [e2]
      rfl
    · unfold F_M_looks
      rw [isD_y hdm hm8, Option.bind_some, if_neg (by decide), ck_nI _ (show d < 8 by omega) (by omega), nI_clamp (show d < 2 ^ 31 by omega), eh]
      have e : wh (fun (s : (Int32) × (Int32)) => F_M_looks_L31 (nI n) fg hm kd (nI d) s.1 s.2) 400 (nI h, nI h) = some (nI (lkd (fun s => bc (nI s)) (lkc go h) h (h + 1))) := by
        refine wh_for (fun i => (nI (lkd (fun s => bc (nI s)) (lkc go h) h i), if i ≤ h then nI (h - i) else -1)) (h + 1) (nI (lkd (fun s => bc (nI s)) (lkc go h) h (h + 1))) (fun i hi => ?_) ?_ 400 (by omega)
        · show F_M_looks_L31 (nI n) fg hm kd (nI d) (nI (lkd (fun s => bc (nI s)) (lkc go h) h i)) (if i ≤ h then nI (h - i) else -1) = some (Sum.inl (nI (lkd (fun s => bc (nI s)) (lkc go h) h (i + 1)), if i + 1 ≤ h then nI (h - (i + 1)) else -1))
          obtain ⟨a1, a2, a3⟩ := lkd_at hself i (by omega)
          have e1 : nI (h - i) + (-1) = if i + 1 ≤ h then nI (h - (i + 1)) else -1 := by
            by_cases c : i + 1 ≤ h
            · rw [if_pos c, show h - i = h - (i + 1) + 1 by omega, dec1]
            · rw [if_neg c, show h - i = 0 by omega]
              rfl
          unfold F_M_looks_L31 F_M_looks_J61_12 F_M_looks_J62_7
          rw [if_pos (show i ≤ h by omega), if_neg (nI_ge0 (show h - i < 2 ^ 31 by omega)), nI_clamp (show d < 2 ^ 31 by omega), eh, M_ones (show h - i < 256 by omega), Option.bind_some, M_ones (show lkd (fun s => bc (nI s)) (lkc go h) h i < 256 by omega), Option.bind_some, M_CB hn ht (show h - i < 2 ^ n by omega), Option.bind_some, M_CB hn ht hh, Option.bind_some, e1, lkd]
          generalize lkd (fun s => bc (nI s)) (lkc go h) h i = b
          generalize (if i + 1 ≤ h then nI (h - (i + 1)) else (-1 : Int32)) = z
          by_cases c1 : (nI (h - i) &&& (nI h ^^^ (-1))) = 0
          · rw [if_pos c1]
            by_cases c2 : bc (nI b) < bc (nI (h - i))
            · rw [if_pos c2, if_pos rfl, if_neg (fun h => h.2 c2)]
            · rw [if_neg c2, if_neg (by decide)]
              by_cases c3 : CB go (nI (h - i)) = CB go (nI h)
              · have c4 : lkc go h (h - i) = true := by
                  unfold lkc
                  rw [decide_eq_true c1, decide_eq_true c3]
                  rfl
                rw [if_pos c3, if_pos ⟨c4, c2⟩]
              · have c4 : ¬ lkc go h (h - i) = true := by
                  unfold lkc
                  rw [decide_eq_true c1, decide_eq_false c3]
                  decide
                rw [if_neg c3, if_neg (fun h => c4 h.1)]
          · have c4 : ¬ lkc go h (h - i) = true := by
              unfold lkc
              rw [decide_eq_false c1]
              exact fun e => Bool.false_ne_true e
            rw [if_neg c1, if_pos rfl, if_neg (fun h => c4 h.1)]
        · show F_M_looks_L31 (nI n) fg hm kd (nI d) _ (if h + 1 ≤ h then nI (h - (h + 1)) else -1) = _
          rw [if_neg (by omega)]
          unfold F_M_looks_L31
          exact if_pos (by decide)
      rw [e]
      rfl
  · refine ⟨-1, rfx rf 1, 0, ?_, ?_⟩
    · unfold F_H_looks
      rw [hasD_n h]
      rfl
    · unfold F_M_looks
      rw [isD_n h hm8]
      rfl
