-- the plan
def cCs (lf wi we : Nat → Int32) (c : Nat) : Nat → Int32
  | 0 => wsm lf (nI c) 4
  | d + 1 => if ogs wi (we d) c 4 = true then cCs lf wi we c d + 1 else cCs lf wi we c d
theorem cCs_n {lf wi : Nat → Int32} (we : Nat → Int32) (hf : ∀ j, j < 4 → ∃ x y, x ≤ 63 ∧ y ≤ 9 ∧ wi j = nI x ∧ lf j = nI y) (c : Nat) : ∀ d, d ≤ 8 → ∃ s, s ≤ 396 + d ∧ (c = 0 → s ≤ d) ∧ cCs lf wi we c d = nI s
  | 0, _ => by
    by_cases h0 : c = 0
    · subst h0
      refine ⟨0, by omega, fun _ => by omega, ?_⟩
      show wsm lf 0 4 = nI 0
      rw [wsm_n (bt00 3 (by omega)), wsm_n (bt00 2 (by omega)), wsm_n (bt00 1 (by omega)), wsm_n (bt00 0 (by omega))]
      rfl
    · obtain ⟨s, h1, h2⟩ := wsm_99 (v := lf) (n := 4) (fun j hj => by
        obtain ⟨x, y, -, b, -, d⟩ := hf j hj
        exact ⟨y, by omega, d⟩) (nI c) 4 (by omega) (by omega)
      exact ⟨s, by omega, fun h => absurd h h0, h2⟩
  | d + 1, hd => by
    obtain ⟨s, h1, h3, h2⟩ := cCs_n we hf c d (by omega)
    rw [cCs]
    by_cases e : ogs wi (we d) c 4 = true
    · rw [if_pos e, h2]
      exact ⟨s + 1, by omega, fun h => by have := h3 h; omega, nI_1 s⟩
    · rw [if_neg e]
      exact ⟨s, by omega, fun h => by have := h3 h; omega, h2⟩
def mnC (lf wi we : Nat → Int32) (m : Nat) : Nat → Int32
  | 0 => nI m
  | c + 1 => if cCs lf wi we c m < mnC lf wi we m c then cCs lf wi we c m else mnC lf wi we m c
theorem mnC_n {lf wi : Nat → Int32} (we : Nat → Int32) (hf : ∀ j, j < 4 → ∃ x y, x ≤ 63 ∧ y ≤ 9 ∧ wi j = nI x ∧ lf j = nI y) {m : Nat} (hm8 : m ≤ 8) : ∀ c, ∃ s, s < 1000 ∧ mnC lf wi we m c = nI s
  | 0 => ⟨m, by omega, rfl⟩
  | c + 1 => by
    rw [mnC]
    by_cases e : cCs lf wi we c m < mnC lf wi we m c
    · rw [if_pos e]
      obtain ⟨s, h1, -, h2⟩ := cCs_n we hf c m hm8
      exact ⟨s, by omega, h2⟩
    · rw [if_neg e]
      exact mnC_n we hf hm8 c
theorem mnC_1 {lf wi : Nat → Int32} (we : Nat → Int32) (hf : ∀ j, j < 4 → ∃ x y, x ≤ 63 ∧ y ≤ 9 ∧ wi j = nI x ∧ lf j = nI y) {m : Nat} (hm8 : m ≤ 8) : mnC lf wi we m 1 = cCs lf wi we 0 m := by
  obtain ⟨s, h1, h3, h2⟩ := cCs_n we hf 0 m hm8
  have h4 := h3 rfl
  show (if cCs lf wi we 0 m < nI m then cCs lf wi we 0 m else nI m) = cCs lf wi we 0 m
  by_cases e : cCs lf wi we 0 m < nI m
  · exact if_pos e
  · rw [if_neg e, h2]
    rw [h2, i32_lt, nI_toInt (by omega), nI_toInt (by omega)] at e
    rw [show s = m by omega]
theorem C_cut {m N : Nat} (hm8 : m ≤ 8) (hN : N = 16) (l w we lf wi W : Nat → Int32) : F_Har_leastCut (nI m) (cpf l lf 4) (cpf w wi 4) (cpf we W 8) = some (mnC lf wi W m N) := by
  have e : wh (fun (s : (Int32) × (Int32)) => F_Har_leastCut_L7 (nI m) (cpf l lf 4) (cpf w wi 4) (cpf we W 8) s.1 s.2) 400 (nI m, (0 : Int32)) = some (mnC lf wi W m N) := by
    refine wh_for (fun i => (mnC lf wi W m i, nI i)) N (mnC lf wi W m N) (fun i hi => ?_) ?_ 400 (by omega)
    · show F_Har_leastCut_L7 (nI m) (cpf l lf 4) (cpf w wi 4) (cpf we W 8) (mnC lf wi W m i) (nI i) = some (Sum.inl (mnC lf wi W m (i + 1), nI (i + 1)))
      unfold F_Har_leastCut_L7
      rw [if_neg (nleC 16 16 (show i < 16 by omega) (by omega) rfl), C_among, Option.bind_some, nI_1]
      have e2 : wh (fun (s : (Int32) × (Int32)) => F_Har_leastCut_L25 (nI m) (cpf w wi 4) (cpf we W 8) (nI i) s.1 s.2) 400 (wsm (cpf l lf 4) (nI i) 4, (0 : Int32)) = some (cCs lf wi W i m) := by
        refine wh_for (fun j => (cCs lf wi W i j, nI j)) m (cCs lf wi W i m) (fun j hj => ?_) ?_ 400 (by omega)
        · show F_Har_leastCut_L25 (nI m) (cpf w wi 4) (cpf we W 8) (nI i) (cCs lf wi W i j) (nI j) = some (Sum.inl (cCs lf wi W i (j + 1), nI (j + 1)))
          unfold F_Har_leastCut_L25
          rw [if_neg (nI_leN hj (by omega)), ck_nI _ (show j < 8 by omega) (by omega), nI_clamp (show j < 2 ^ 31 by omega), C_wishers, Option.bind_some, nI_1, cCs, cpf_at (show j < 8 by omega)]
          have e3 : wsB (cpf w wi 4) (W j) 4 = wsB wi (W j) 4 := rfl
          rw [e3]
          by_cases c : wsB wi (W j) 4 &&& (nI i ^^^ (-1)) = 0
          · rw [if_pos c, if_neg (by rw [(wsB_and (show i < 16 by omega) wi _).mp c]; decide)]
          · rw [if_neg c, if_pos (by
              cases ee : ogs wi (W j) i 4 with
              | true => rfl
              | false => exact absurd ((wsB_and (show i < 16 by omega) wi _).mpr ee) c)]
        · show F_Har_leastCut_L25 _ _ _ _ _ (nI m) = _
          unfold F_Har_leastCut_L25
          exact if_pos (by rw [i32_le]; omega)
      rw [e2, Option.bind_some]
      rfl
    · show F_Har_leastCut_L7 (nI m) (cpf l lf 4) (cpf w wi 4) (cpf we W 8) (mnC lf wi W m N) (nI N) = _
      unfold F_Har_leastCut_L7
      rw [if_pos (by rw [hN]; decide)]
  unfold F_Har_leastCut
  rw [e, Option.bind_some]
theorem P_plan {hk : Int32} {th : Int32} {dy : Int32} {dn : Int32} {wt : Nat → Int32} {kd : Nat → Int32} {fg : Nat → Int32} {go : Nat → Int32} {hm : Nat → Int32} {wi : Nat → Int32} {lf : Nat → Int32} {kth : Int32} {kdy : Int32} {kdn : Int32} {kwt : Nat → Int32} {kkd : Nat → Int32} {kfg : Nat → Int32} {kgo : Nat → Int32} {khm : Nat → Int32} {kwi : Nat → Int32} {klf : Nat → Int32} {sc : Int32} {sg : Nat → Nat} {sp : Nat → Int32} {sl : Nat → Int32} {sb : Nat → Int32} {sf : Nat → Int32} {sd : Nat → Int32} {lc : Int32} {lt : Nat → Int32} {nc : Int32} {nu : Nat → Int32} {h_fields_wishes : Nat → Int32} {h_fields_lefts : Nat → Int32} {h_weathers : Nat → Int32} {im : Nat → Int32} {tu : Nat → Int32} (hI : Inv th dy dn wt kd fg go hm wi lf hk kth kdy kdn kwt kkd kfg kgo khm kwi klf im sc sg sp sl sb sf sd tu lt lc nu nc) : ∃ (r : Int32) (h_days' : Int32) (h_fields_wishes' : Nat → Int32) (h_fields_lefts' : Nat → Int32) (h_weathers' : Nat → Int32) (m_thrown' : Int32), F_H_plan h_fields_lefts h_fields_wishes h_weathers dy lf wi go hm wt = some (r, h_days', h_fields_lefts', h_fields_wishes', h_weathers') ∧ F_M_plan dy th fg hm kd lf wi wt = some (r, m_thrown') := by
  obtain ⟨⟨n, m, q, hn, hm8, hq, rfl, rfl, rfl, hw, ht, hd, hf⟩, -⟩ := hI
  obtain ⟨N, hN⟩ : ∃ N : Nat, N = 16 := ⟨16, rfl⟩
  refine ⟨mnC lf wi (wthr go wt hm m) m N, nI m, cpf h_fields_wishes wi 4, cpf h_fields_lefts lf 4, cpf h_weathers (wthr go wt hm m) 8, 0, ?_, ?_⟩
  · unfold F_H_plan F_Har_mostByPlan
    rw [C_begin hm8, Option.bind_some]
    show ((F_Har_leastCut (nI m) (cpf h_fields_lefts lf 4) (cpf h_fields_wishes wi 4) (cpf h_weathers (wthr go wt hm m) 8)).bind _).bind _ = _
    rw [C_cut hm8 hN, Option.bind_some, Option.bind_some]
  · unfold F_M_plan
    refine (wh_forB (fun i => ((if i = 0 then (-1 : Int32) else mnC lf wi (wthr go wt hm m) m i), nI i)) N (mnC lf wi (wthr go wt hm m) m N) 400 (by omega) (fun i hi => ?_) ?_).trans rfl
    · show F_M_plan_L9 (nI m) (nI n) fg hm kd lf wi wt (if i = 0 then (-1 : Int32) else mnC lf wi (wthr go wt hm m) m i) (nI i) = some (Sum.inl ((if i + 1 = 0 then (-1 : Int32) else mnC lf wi (wthr go wt hm m) m (i + 1)), nI (i + 1)))
      unfold F_M_plan_L9
      have e1 : wh (fun (s : (Int32) × (Int32)) => F_M_plan_L20 lf (nI i) s.1 s.2) 400 ((0 : Int32), (0 : Int32)) = some (wsm lf (nI i) 4) := by
        refine wh_for (fun j => (wsm lf (nI i) j, nI j)) 4 (wsm lf (nI i) 4) (fun j hj => ?_) ?_ 400 (by omega)
        · show F_M_plan_L20 lf (nI i) (wsm lf (nI i) j) (nI j) = some (Sum.inl (wsm lf (nI i) (j + 1), nI (j + 1)))
          unfold F_M_plan_L20
          rw [if_neg (nleC 4 4 hj (by omega) rfl), hasBit_bt, Option.bind_some, ck_nI _ hj (by omega), nI_clamp (show j < 2 ^ 31 by omega), nI_1]
          cases hb : bt (nI i) j
          · rw [wsm_n hb, if_pos (by decide), Int32.add_zero]
          · rw [wsm_y hb, if_neg (by decide)]
        · rfl
      have e2 : wh (fun (s : (Int32) × (Int32)) => F_M_plan_L58 (nI m) (nI n) fg hm kd wi wt (nI i) s.1 s.2) 400 (wsm lf (nI i) 4, (0 : Int32)) = some (cCs lf wi (wthr go wt hm m) i m) := by
        refine wh_for (fun j => (cCs lf wi (wthr go wt hm m) i j, nI j)) m (cCs lf wi (wthr go wt hm m) i m) (fun j hj => ?_) ?_ 400 (by omega)
        · show F_M_plan_L58 (nI m) (nI n) fg hm kd wi wt (nI i) (cCs lf wi (wthr go wt hm m) i j) (nI j) = some (Sum.inl (cCs lf wi (wthr go wt hm m) i (j + 1), nI (j + 1)))
          unfold F_M_plan_L58
          rw [if_neg (nI_leN hj (by omega)), M_on hn hm8 ht hd hj, Option.bind_some, ← wthr_y (go := go) (wt := wt) (hm := hm) hj, M_out (wthr_or go wt hm m j), Option.bind_some, nI_1, cCs]
          cases ogs wi (wthr go wt hm m j) i 4
          · rw [if_pos (by decide), Int32.add_zero]
            rfl
          · rw [if_neg (by decide)]
            rfl
        · show F_M_plan_L58 (nI m) (nI n) fg hm kd wi wt (nI i) _ (nI m) = _
          unfold F_M_plan_L58
          rw [if_pos (by rw [i32_le]; omega)]
      rw [if_neg (nleC 16 16 (show i < 16 by omega) (by omega) rfl), e1, Option.bind_some, e2, Option.bind_some, nI_1, if_neg (show ¬ i + 1 = 0 by omega)]
      by_cases c0 : i = 0
      · subst c0
        rw [mnC_1 _ hf hm8]
        rfl
      · obtain ⟨s, s1, s2⟩ := mnC_n (wthr go wt hm m) hf hm8 i
        obtain ⟨s', s1', -, s2'⟩ := cCs_n (wthr go wt hm m) hf i m hm8
        rw [if_neg c0, mnC, s2, s2', if_neg (nI_ge0 (by omega))]
        by_cases c : nI s ≤ nI s'
        · rw [if_pos c, if_neg (by rw [i32_lt]; rw [i32_le] at c; omega)]
        · rw [if_neg c, if_pos (by rw [i32_lt]; rw [i32_le] at c; omega)]
    · show F_M_plan_L9 (nI m) (nI n) fg hm kd lf wi wt (if N = 0 then (-1 : Int32) else mnC lf wi (wthr go wt hm m) m N) (nI N) = _
      unfold F_M_plan_L9
      rw [if_pos (by rw [hN]; decide), if_neg (show ¬ N = 0 by omega)]
