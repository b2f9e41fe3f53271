-- thing, day, weighs, packs
theorem updA (f : Nat → Int32) (k : Nat) (v : Int32) : upd f k v k = v := if_pos rfl
theorem updN (f : Nat → Int32) {k r : Nat} (v : Int32) (h : r ≠ k) : upd f k v r = f r := if_neg h
theorem updS (f : Nat → Int32) (k : Nat) : upd f k (f k) = f := by
  funext j
  unfold upd
  by_cases c : j = k
  · rw [if_pos c, c]
  · rw [if_neg c]
theorem updU (f : Nat → Int32) (k : Nat) (v w : Int32) : upd (upd f k v) k w = upd f k w := by
  funext j
  unfold upd
  by_cases c : j = k
  · rw [if_pos c, if_pos c]
  · rw [if_neg c, if_neg c]
    exact (if_neg c).symm
theorem sub1 {a : Nat} (h : 1 ≤ a) : nI a - 1 = nI (a - 1) := by
  obtain ⟨b, rfl⟩ : ∃ b, a = b + 1 := ⟨a - 1, by omega⟩
  rw [← nI_1, Int32.add_sub_cancel, Nat.add_sub_cancel]
theorem P_thing {hk : Int32} {th : Int32} {dy : Int32} {dn : Int32} {wt : Nat → Int32} {kd : Nat → Int32} {fg : Nat → Int32} {go : Nat → Int32} {hm : Nat → Int32} {wi : Nat → Int32} {lf : Nat → Int32} {kth : Int32} {kdy : Int32} {kdn : Int32} {kwt : Nat → Int32} {kkd : Nat → Int32} {kfg : Nat → Int32} {kgo : Nat → Int32} {khm : Nat → Int32} {kwi : Nat → Int32} {klf : Nat → Int32} {sc : Int32} {sg : Nat → Nat} {sp : Nat → Int32} {sl : Nat → Int32} {sb : Nat → Int32} {sf : Nat → Int32} {sd : Nat → Int32} {lc : Int32} {lt : Nat → Int32} {nc : Int32} {nu : Nat → Int32} {rf : Nat → Int32} {im : Nat → Int32} {tu : Nat → Int32} (hI : Inv th dy dn wt kd fg go hm wi lf hk kth kdy kdn kwt kkd kfg kgo khm kwi klf im sc sg sp sl sb sf sd tu lt lc nu nc) (x1 : Int32) (x2 : Int32) : ∃ (r : Int32) (th' : Int32) (kd' : Nat → Int32) (fg' : Nat → Int32) (go' : Nat → Int32) (sc' : Int32) (rf' : Nat → Int32) (m_thrown' : Int32), F_H_thing th fg go kd rf sc x1 x2 = some (r, th', fg', go', kd', rf', sc') ∧ F_M_thing th sc fg kd rf x1 x2 = some (r, th', m_thrown', sc', fg', kd', rf') ∧ Inv th' dy dn wt kd' fg' go' hm wi lf hk kth kdy kdn kwt kkd kfg kgo khm kwi klf im sc' sg sp sl sb sf sd tu lt lc nu nc := by
  have hI0 := hI
  obtain ⟨⟨n, m, q, hn, hm8, hq, rfl, rfl, rfl, hw, ht, hd, hf⟩, hK, ⟨hP, k, hk8, rfl, hT⟩, hL, hN⟩ := hI
  have ref : ∀ c : Int32, F_Sta_thingRefusal (nI n) x1 x2 = some c → (∀ z, F_M_thing (nI n) (nI k) fg kd rf x1 x2 = z → z = F_M_thing_J49_5 (nI n) (nI k) fg kd rf x1 x2 c) → (c = -2 ∨ c = -4 ∨ c = -6) → ∃ (r : Int32) (th' : Int32) (kd' : Nat → Int32) (fg' : Nat → Int32) (go' : Nat → Int32) (sc' : Int32) (rf' : Nat → Int32) (m_thrown' : Int32), F_H_thing (nI n) fg go kd rf (nI k) x1 x2 = some (r, th', fg', go', kd', rf', sc') ∧ F_M_thing (nI n) (nI k) fg kd rf x1 x2 = some (r, th', m_thrown', sc', fg', kd', rf') ∧ Inv th' (nI m) (nI q) wt kd' fg' go' hm wi lf hk kth kdy kdn kwt kkd kfg kgo khm kwi klf im sc' sg sp sl sb sf sd tu lt lc nu nc := by
    intro c h1 h2 h3
    rw [h2 _ rfl]
    unfold F_H_thing
    rw [h1, Option.bind_some]
    rcases h3 with rfl | rfl | rfl
    · exact ⟨-2, nI n, kd, fg, go, nI k, rfx rf 2, 0, rfl, rfl, hI0⟩
    · exact ⟨-4, nI n, kd, fg, go, nI k, rfx rf 4, 0, rfl, rfl, hI0⟩
    · exact ⟨-6, nI n, kd, fg, go, nI k, rfx rf 6, 0, rfl, rfl, hI0⟩
  rcases inR x1 6 (by omega) with ⟨a, ha, rfl⟩ | h
  · rcases inR x2 10 (by omega) with ⟨b, hb, rfl⟩ | h | ⟨h, h2⟩
    · have ewn : F_M_wrongNumber (nI b) 0 9 = some 0 := by
        unfold F_M_wrongNumber
        rw [if_pos (show (0 : Int32) ≤ nI b by rw [i32_le, nI_toInt (by omega), Int32.toInt_zero]; omega), if_pos (show nI b ≤ 9 by rw [i32_le, nI_toInt (by omega), show (9 : Int32).toInt = 9 by decide +kernel]; omega)]
      have er : F_Sta_thingRefusal (nI n) (nI a) (nI b) = if n = 8 then some (-6) else some 0 := by
        unfold F_Sta_thingRefusal
        rw [if_neg (nI_ge0 (by omega)), if_pos (ltC 6 6 ha (by omega) rfl), if_pos (show (0 : Int32) ≤ nI b by rw [i32_le, nI_toInt (by omega), Int32.toInt_zero]; omega), if_neg (show ¬ (9 : Int32) < nI b by rw [i32_lt, nI_toInt (by omega), show (9 : Int32).toInt = 9 by decide +kernel]; omega)]
        by_cases c : n = 8
        · rw [if_pos c, if_neg (by rw [i32_lt, nI_toInt (by omega), show (8 : Int32).toInt = 8 by decide +kernel]; omega)]
        · rw [if_neg c, if_pos (ltC 8 8 (show n < 8 by omega) (by omega) rfl)]
      by_cases c : n = 8
      · refine ref (-6) (by rw [er, if_pos c]) ?_ (Or.inr (Or.inr rfl))
        intro z hz
        rw [← hz]
        unfold F_M_thing F_M_thing_J29_3
        rw [M_in0_y 6 5 ha (by omega) (by decide +kernel), Option.bind_some, if_neg (by decide), ewn, Option.bind_some, if_pos rfl, if_pos (by rw [c]; rfl)]
      · rw [if_neg c] at er
        refine ⟨nI n, nI (n + 1), upd kd n (nI a), upd fg n (nI b), upd go n (nI (gw a b)), 0, rf, 0, ?_, ?_, ⟨n + 1, m, q, by omega, hm8, hq, rfl, rfl, rfl, hw, fun j hj => ?_, fun j hj => ?_, hf⟩, hK, ⟨hP, 0, by omega, rfl, trivial⟩, hL, hN⟩
        · unfold F_H_thing F_Sta_addThing
          rw [er, Option.bind_some, if_pos rfl, if_neg (nleC 8 8 (show n < 8 by omega) (by omega) rfl), ck_nI _ (show n < 8 by omega) (by omega), ck_nI _ (show n < 8 by omega) (by omega), (goes_fin ⟨a, ha⟩ ⟨b, by omega⟩).2, Option.bind_some, ck_nI _ (show n < 8 by omega) (by omega), nI_clamp (show n < 2 ^ 31 by omega), nI_1]
          rfl
        · unfold F_M_thing F_M_thing_J29_3 F_M_thing_J48_9 F_M_thing_J49_5 F_M_thingComes
          rw [M_in0_y 6 5 ha (by omega) (by decide +kernel), Option.bind_some, if_neg (by decide), ewn, Option.bind_some, if_pos rfl, if_neg (neC 8 8 c (by omega) (by omega) rfl), if_pos (by decide), ck_nI _ (show n < 8 by omega) (by omega), ck_nI _ (show n < 8 by omega) (by omega), nI_clamp (show n < 2 ^ 31 by omega), Option.bind_some]
          show some (nI n + 1 - 1, nI n + 1, _) = _
          rw [Int32.add_sub_cancel, nI_1]
        · by_cases e : j = n
          · subst e
            exact ⟨a, b, ha, by omega, updA _ _ _, updA _ _ _, updA _ _ _⟩
          · obtain ⟨k', f', h1, h2, h3, h4, h5⟩ := ht j (by omega)
            exact ⟨k', f', h1, h2, by rw [updN _ _ e, h3], by rw [updN _ _ e, h4], by rw [updN _ _ e, h5]⟩
        · obtain ⟨g, h1, h2⟩ := hd j hj
          exact ⟨g, by rw [Nat.pow_succ]; omega, h2⟩
    · have c0 : ¬ (0 : Int32) ≤ x2 := by
        rw [i32_le]
        rw [i32_lt] at h
        omega
      refine ref (-4) ?_ ?_ (Or.inr (Or.inl rfl))
      · unfold F_Sta_thingRefusal
        rw [if_neg (nI_ge0 (by omega)), if_pos (ltC 6 6 ha (by omega) rfl), if_neg c0]
      · intro z hz
        rw [← hz]
        unfold F_M_thing F_M_thing_J29_3 F_M_wrongNumber
        rw [M_in0_y 6 5 ha (by omega) (by decide +kernel), Option.bind_some, if_neg (by decide), if_neg c0, Option.bind_some]
        rfl
    · have c0 : (0 : Int32) ≤ x2 := by
        rw [i32_le]
        rw [i32_lt] at h
        omega
      have c1 : (9 : Int32) < x2 := by
        rw [i32_lt, show (9 : Int32).toInt = 9 by decide +kernel]
        rw [i32_le, nI_toInt (by omega)] at h2
        omega
      refine ref (-6) ?_ ?_ (Or.inr (Or.inr rfl))
      · unfold F_Sta_thingRefusal
        rw [if_neg (nI_ge0 (by omega)), if_pos (ltC 6 6 ha (by omega) rfl), if_pos c0, if_pos c1]
      · intro z hz
        rw [← hz]
        unfold F_M_thing F_M_thing_J29_3 F_M_wrongNumber
        rw [M_in0_y 6 5 ha (by omega) (by decide +kernel), Option.bind_some, if_neg (by decide), if_pos c0, if_neg (show ¬ x2 ≤ 9 by rw [i32_le]; rw [i32_lt] at c1; omega), Option.bind_some]
        rfl
  · refine ref (-2) ?_ ?_ (Or.inl rfl)
    · unfold F_Sta_thingRefusal
      rcases h with h | ⟨h, h2⟩
      · rw [if_pos h]
      · rw [if_neg h, if_neg (show ¬ x1 < 6 by rw [i32_lt, show (6 : Int32).toInt = 6 by decide +kernel]; rw [i32_le, nI_toInt (by omega)] at h2; omega)]
    · intro z hz
      rw [← hz]
      unfold F_M_thing F_M_thing_J29_3
      rw [M_in0_n 6 5 h (by omega) (by omega) (by decide +kernel), Option.bind_some, if_pos rfl]
      rfl
theorem P_day {hk : Int32} {th : Int32} {dy : Int32} {dn : Int32} {wt : Nat → Int32} {kd : Nat → Int32} {fg : Nat → Int32} {go : Nat → Int32} {hm : Nat → Int32} {wi : Nat → Int32} {lf : Nat → Int32} {kth : Int32} {kdy : Int32} {kdn : Int32} {kwt : Nat → Int32} {kkd : Nat → Int32} {kfg : Nat → Int32} {kgo : Nat → Int32} {khm : Nat → Int32} {kwi : Nat → Int32} {klf : Nat → Int32} {sc : Int32} {sg : Nat → Nat} {sp : Nat → Int32} {sl : Nat → Int32} {sb : Nat → Int32} {sf : Nat → Int32} {sd : Nat → Int32} {lc : Int32} {lt : Nat → Int32} {nc : Int32} {nu : Nat → Int32} {rf : Nat → Int32} {im : Nat → Int32} {tu : Nat → Int32} (hI : Inv th dy dn wt kd fg go hm wi lf hk kth kdy kdn kwt kkd kfg kgo khm kwi klf im sc sg sp sl sb sf sd tu lt lc nu nc) (x1 : Int32) : ∃ (r : Int32) (dy' : Int32) (hm' : Nat → Int32) (sc' : Int32) (rf' : Nat → Int32) (m_thrown' : Int32), F_H_day dy th hm rf sc x1 = some (r, dy', hm', rf', sc') ∧ F_M_day dy th sc hm rf x1 = some (r, dy', m_thrown', sc', hm', rf') ∧ Inv th dy' dn wt kd fg go hm' wi lf hk kth kdy kdn kwt kkd kfg kgo khm kwi klf im sc' sg sp sl sb sf sd tu lt lc nu nc := by
  have hI0 := hI
  obtain ⟨⟨n, m, q, hn, hm8, hq, rfl, rfl, rfl, hw, ht, hd, hf⟩, hK, ⟨hP, k, hk8, rfl, hT⟩, hL, hN⟩ := hI
  obtain ⟨p1, p2⟩ := pow_le hn
  have ref : ∀ c : Int32, F_Sta_dayRefusal (nI m) (nI n) x1 = some c → (∀ z, F_M_day (nI m) (nI n) (nI k) hm rf x1 = z → z = F_M_day_J38_3 (nI m) (nI k) hm rf x1 c) → (c = -4 ∨ c = -6) → ∃ (r : Int32) (dy' : Int32) (hm' : Nat → Int32) (sc' : Int32) (rf' : Nat → Int32) (m_thrown' : Int32), F_H_day (nI m) (nI n) hm rf (nI k) x1 = some (r, dy', hm', rf', sc') ∧ F_M_day (nI m) (nI n) (nI k) hm rf x1 = some (r, dy', m_thrown', sc', hm', rf') ∧ Inv (nI n) dy' (nI q) wt kd fg go hm' wi lf hk kth kdy kdn kwt kkd kfg kgo khm kwi klf im sc' sg sp sl sb sf sd tu lt lc nu nc := by
    intro c h1 h2 h3
    rw [h2 _ rfl]
    unfold F_H_day
    rw [h1, Option.bind_some]
    rcases h3 with rfl | rfl
    · exact ⟨-4, nI m, hm, nI k, rfx rf 4, 0, rfl, rfl, hI0⟩
    · exact ⟨-6, nI m, hm, nI k, rfx rf 6, 0, rfl, rfl, hI0⟩
  have es : (1 : Int32) <<< ((nI n) &&& 31) - 1 = nI (2 ^ n - 1) := by rw [shl_n hn, sub1 p2]
  rcases inR x1 (2 ^ n) (by omega) with ⟨a, ha, rfl⟩ | h | ⟨h, h2⟩
  · have c0 : (0 : Int32) ≤ nI a := by rw [i32_le, nI_toInt (by omega), Int32.toInt_zero]; omega
    have c1 : nI a ≤ nI (2 ^ n - 1) := nI_le (by omega) (by omega)
    have c2 : ¬ nI (2 ^ n - 1) < nI a := by rw [i32_lt, nI_toInt (by omega), nI_toInt (by omega)]; omega
    have ewn : F_M_wrongNumber (nI a) 0 (nI (2 ^ n - 1)) = some 0 := by
      unfold F_M_wrongNumber
      rw [if_pos c0, if_pos c1]
    by_cases c : m = 8
    · refine ref (-6) ?_ ?_ (Or.inr rfl)
      · unfold F_Sta_dayRefusal
        rw [if_pos c0, C_sets hn, Option.bind_some, if_neg c2, if_neg (by rw [i32_lt, nI_toInt (by omega), show (8 : Int32).toInt = 8 by decide +kernel]; omega)]
      · intro z hz
        rw [← hz]
        unfold F_M_day
        rw [es, ewn, Option.bind_some, if_pos rfl, if_pos (by rw [c]; rfl)]
    · refine ⟨nI m, nI (m + 1), upd hm m (nI a), 0, rf, 0, ?_, ?_, ⟨n, m + 1, q, hn, by omega, hq, rfl, rfl, rfl, hw, ht, fun j hj => ?_, hf⟩, hK, ⟨hP, 0, by omega, rfl, trivial⟩, hL, hN⟩
      · unfold F_H_day F_Sta_dayRefusal F_Sta_addDay
        rw [if_pos c0, C_sets hn, Option.bind_some, if_neg c2, if_pos (ltC 8 8 (show m < 8 by omega) (by omega) rfl), Option.bind_some, if_pos rfl, if_neg (nleC 8 8 (show m < 8 by omega) (by omega) rfl), ck_nI _ (show m < 8 by omega) (by omega), nI_clamp (show m < 2 ^ 31 by omega), nI_1]
        rfl
      · unfold F_M_day F_M_day_J37_7 F_M_day_J38_3 F_M_dayComes
        rw [es, ewn, Option.bind_some, if_pos rfl, if_neg (neC 8 8 c (by omega) (by omega) rfl), if_pos (by decide), ck_nI _ (show m < 8 by omega) (by omega), nI_clamp (show m < 2 ^ 31 by omega), Option.bind_some]
        show some (nI m + 1 - 1, nI m + 1, _) = _
        rw [Int32.add_sub_cancel, nI_1]
      · by_cases e : j = m
        · subst e
          exact ⟨a, ha, updA _ _ _⟩
        · obtain ⟨g, h1, h2⟩ := hd j (by omega)
          exact ⟨g, h1, by rw [updN _ _ e, h2]⟩
  · have c0 : ¬ (0 : Int32) ≤ x1 := by
      rw [i32_le]
      rw [i32_lt] at h
      omega
    refine ref (-4) ?_ ?_ (Or.inl rfl)
    · unfold F_Sta_dayRefusal
      rw [if_neg c0]
    · intro z hz
      rw [← hz]
      unfold F_M_day F_M_day_J37_7 F_M_wrongNumber
      rw [if_neg c0, Option.bind_some]
      rfl
  · have c0 : (0 : Int32) ≤ x1 := by
      rw [i32_le]
      rw [i32_lt] at h
      omega
    rw [i32_le, nI_toInt (by omega)] at h2
    refine ref (-6) ?_ ?_ (Or.inr rfl)
    · unfold F_Sta_dayRefusal
      rw [if_pos c0, C_sets hn, Option.bind_some, if_pos (by rw [i32_lt, nI_toInt (by omega)]; omega)]
    · intro z hz
      rw [← hz]
      unfold F_M_day F_M_day_J37_7 F_M_wrongNumber
      rw [es, if_pos c0, if_neg (by rw [i32_le, nI_toInt (by omega)]; omega), Option.bind_some]
      rfl
