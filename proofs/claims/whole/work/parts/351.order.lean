-- order: the class's recursion
theorem odL_le {wk : (Nat → Nat) → Nat} (hw : ∀ q, wk q ≤ 8) (m r u j : Nat) (pa : Nat → Nat) {S : Nat × (Nat → Nat)} (hS : S.1 ≤ 9) : ∀ d, (odL (fun d S => odE wk m r (u ||| 2 ^ d) (updn pa j d) S) u d S).1 ≤ 9
  | 0 => hS
  | d + 1 => by
    rw [odL]
    split
    · exact odL_le hw m r u j pa hS d
    · exact odE_le hw m r _ _ _ (odL_le hw m r u j pa hS d)
theorem wkq_le (W lf wi : Nat → Int32) {K : Nat} (hK : K ≤ 8) (q : Nat → Nat) : wkq W lf wi K q ≤ 8 := Nat.le_trans (gwc_le _ _ _ _ K) hK
theorem min_le {T h M : Nat} (hT : T < 2 ^ 30) (hh : h < 2 ^ 30) (hM : M < 2 ^ 30) : (if nI T < nI h then nI T else nI h) ≤ mst M ↔ (T + 1 ≤ M ∨ h + 1 ≤ M) := by
  by_cases c : nI T < nI h
  · rw [if_pos c, mst_le hM hT]
    rw [i32_lt, nI_toInt (by omega), nI_toInt (by omega)] at c
    omega
  · rw [if_neg c, mst_le hM hh]
    rw [i32_lt, nI_toInt (by omega), nI_toInt (by omega)] at c
    omega
theorem C_ext {m K T : Nat} (hm8 : m ≤ 8) (hK : K ≤ m) (l w we W lf wi : Nat → Int32) (hT : T ≤ 8) (hcut : ∀ q : Nat → Nat, (∀ i, i < K → q i < m) → (∀ i j, i < K → j < K → q i = q j → i = j) → wkq W lf wi K q ≤ T) (c : Nat) : ∀ (e u : Nat) (pa : Nat → Nat) (S : Nat × (Nat → Nat)) (b p : Nat → Int32), e ≤ K → u < 256 → rnk u m = m - (K - e) → Pre m (K - e) u pa → S.1 ≤ 9 → (∀ i, i < K - e → p i = nI (pa i)) → (1 ≤ S.1 → ∀ i, i < m → b i = nI (S.2 i)) →
    ∃ o : Int32 × (Nat → Int32) × (Nat → Int32) × (Nat → Int32), F_Har_extendPath (c + e + 1) (nI T) (nI K) (nI m) (mst S.1) b (cpf l (gwl nsk (fun i => W (pa i)) lf wi (K - e)) 4) (cpf w wi 4) p (cpf we W 8) (nI (K - e)) (nI u) (nI (gwc nsk (fun i => W (pa i)) lf wi (K - e))) = some o ∧ o.1 = mst (odE (wkq W lf wi K) m (m - (K - e)) u pa S).1 ∧ (1 ≤ (odE (wkq W lf wi K) m (m - (K - e)) u pa S).1 → ∀ i, i < m → o.2.1 i = nI ((odE (wkq W lf wi K) m (m - (K - e)) u pa S).2 i)) ∧ o.2.2.1 = cpf l (gwl nsk (fun i => W (pa i)) lf wi (K - e)) 4 ∧ (∀ i, i < K - e → o.2.2.2 i = nI (pa i))
  | 0, u, pa, S, b, p, he, hu, hk, hpr, hS, hp, hb => by
    rw [Nat.sub_zero] at hk hp ⊢
    have hg : gwc nsk (fun i => W (pa i)) lf wi K ≤ 8 := Nat.le_trans (gwc_le _ _ _ _ K) (by omega)
    have hwk : ∀ q, (∀ i, i < m - (m - K) → q i = pa i) → wkq W lf wi K q = gwc nsk (fun i => W (pa i)) lf wi K := by
      intro q hq
      exact gwc_cong K (fun i hi => by rw [hq i (by omega)])
    show ∃ o, B_Har_extendPath (F_Har_extendPath c) (nI T) (nI K) (nI m) (mst S.1) b _ (cpf w wi 4) p (cpf we W 8) (nI K) (nI u) _ = some o ∧ _
    unfold B_Har_extendPath F_Har_extendPath_J14_2
    rw [if_pos (nI_le (Nat.le_refl K) (by omega))]
    by_cases h : S.1 ≤ gwc nsk (fun i => W (pa i)) lf wi K
    · obtain ⟨q, q1, q2, q3⟩ := odE_asc (wk := wkq W lf wi K) hm8 (m - K) u pa S (by omega) hu hk hwk h
      rw [if_neg (fun e => by
        have := (mst_le (show S.1 < 2 ^ 30 by omega) (by omega)).mp e
        omega), C_keep hm8 hK (by omega), Option.bind_some, q1]
      refine ⟨_, rfl, (mst_s _).symm, fun _ i hi => ?_, rfl, hp⟩
      show kpB u K (cpf b p K) m i = nI (q i)
      by_cases c : i < K
      · rw [kpB_lo u K _ c, cpf_at c, hp i c, q2 i (by omega)]
      · obtain ⟨d, d1, d2, d3⟩ := rnk_sur (u := u) (t := i - K) m (by omega)
        have h1 := kpB_at u K (cpf b p K) d2 m d1
        have h2 := q3 d d1 d2
        rw [d3, show K + (i - K) = i by omega] at h1
        rw [d3, show m - (m - K) + (i - K) = i by omega] at h2
        rw [h1, h2]
    · have hskip := odE_skip (wk := wkq W lf wi K) (m := m) (m - K) u pa S (by omega) (fun q hq => by
        rw [hwk q hq]
        omega)
      rw [if_pos ((mst_le (show S.1 < 2 ^ 30 by omega) (by omega)).mpr (by omega)), hskip]
      exact ⟨_, rfl, rfl, hb, rfl, hp⟩
  | e + 1, u, pa, S, b, p, he, hu, hk, hpr, hS, hp, hb => by
    obtain ⟨j, hj⟩ : ∃ j, K - (e + 1) = j := ⟨_, rfl⟩
    have hj1 : K - e = j + 1 := by omega
    rw [hj] at hk hpr hp ⊢
    have hg : gwc nsk (fun i => W (pa i)) lf wi j ≤ 8 := Nat.le_trans (gwc_le _ _ _ _ j) (by omega)
    have hw8 : ∀ q, wkq W lf wi K q ≤ 8 := wkq_le W lf wi (by omega)
    have hr : m - j = (m - (K - e)) + 1 := by omega
    have hjm : m - ((m - (K - e)) + 1) = j := by omega
    rw [hr, odE, hjm]
    show ∃ o, B_Har_extendPath (F_Har_extendPath (c + e + 1)) (nI T) (nI K) (nI m) (mst S.1) b _ (cpf w wi 4) p (cpf we W 8) (nI j) (nI u) _ = some o ∧ _
    unfold B_Har_extendPath
    rw [if_neg (nI_leN (show j < K by omega) (by omega)), if_pos (ltC 8 8 (show j < 8 by omega) (by omega) rfl)]
    have hA8 : cn (abl (gwl nsk (fun i => W (pa i)) lf wi j) wi W u) m ≤ 8 := Nat.le_trans (cn_le _ m) hm8
    rw [C_able hm8, Option.bind_some]
    obtain ⟨A, hA⟩ : ∃ A, cn (abl (gwl nsk (fun i => W (pa i)) lf wi j) wi W u) m = A := ⟨_, rfl⟩
    rw [hA] at hA8 ⊢
    obtain ⟨Mn, hMn, hMn2, hMn8⟩ : ∃ Mn, (if nI A < nI K - nI j then nI A else nI K - nI j) = nI Mn ∧ (Mn = A ∨ Mn = K - j) ∧ Mn ≤ 8 := by
      rw [nI_subS (show j ≤ K by omega) (by omega)]
      split
      · exact ⟨A, rfl, Or.inl rfl, hA8⟩
      · exact ⟨K - j, rfl, Or.inr rfl, by omega⟩
    have hLp : ∀ d, (odL (fun d S => odE (wkq W lf wi K) m (m - (K - e)) (u ||| 2 ^ d) (updn pa j d) S) u d S).1 ≤ 9 := odL_le hw8 m (m - (K - e)) u j pa hS
    refine Exists.elim (wh_ex (step := fun (s : (Int32) × (Int32) × (Nat → Int32) × (Nat → Int32) × (Nat → Int32)) => F_Har_extendPath_L65 (F_Har_extendPath (c + e + 1)) (nI T) (nI K) (nI m) (cpf w wi 4) (cpf we W 8) (nI A) (nI j) (nI u) (nI (gwc nsk (fun i => W (pa i)) lf wi j)) s.1 s.2.1 s.2.2.1 s.2.2.2.1 s.2.2.2.2)
      (fun d s => s.1 = nI d ∧ s.2.1 = mst (odL (fun d S => odE (wkq W lf wi K) m (m - (K - e)) (u ||| 2 ^ d) (updn pa j d) S) u d S).1 ∧ (1 ≤ (odL (fun d S => odE (wkq W lf wi K) m (m - (K - e)) (u ||| 2 ^ d) (updn pa j d) S) u d S).1 → ∀ i, i < m → s.2.2.1 i = nI ((odL (fun d S => odE (wkq W lf wi K) m (m - (K - e)) (u ||| 2 ^ d) (updn pa j d) S) u d S).2 i)) ∧ s.2.2.2.1 = cpf l (gwl nsk (fun i => W (pa i)) lf wi j) 4 ∧ (∀ i, i < j → s.2.2.2.2 i = nI (pa i)))
      (fun r => r.1 = mst (odL (fun d S => odE (wkq W lf wi K) m (m - (K - e)) (u ||| 2 ^ d) (updn pa j d) S) u m S).1 ∧ (1 ≤ (odL (fun d S => odE (wkq W lf wi K) m (m - (K - e)) (u ||| 2 ^ d) (updn pa j d) S) u m S).1 → ∀ i, i < m → r.2.1 i = nI ((odL (fun d S => odE (wkq W lf wi K) m (m - (K - e)) (u ||| 2 ^ d) (updn pa j d) S) u m S).2 i)) ∧ r.2.2.1 = cpf l (gwl nsk (fun i => W (pa i)) lf wi j) 4 ∧ (∀ i, i < j → r.2.2.2 i = nI (pa i)))
      m (fun d hd s hs => ?_) (fun s hs => ?_) m 400 0 ((0 : Int32), mst S.1, b, cpf l (gwl nsk (fun i => W (pa i)) lf wi j) 4, p) (by omega) (by omega) ⟨rfl, rfl, hb, rfl, hp⟩) (fun r hr => ?_)
    · obtain ⟨s1, s2, s3, s4, s5⟩ := s
      obtain ⟨g1, g2, g3, g4, g5⟩ := hs
      have g1' : s1 = nI d := g1
      have g2' : s2 = mst (odL (fun d S => odE (wkq W lf wi K) m (m - (K - e)) (u ||| 2 ^ d) (updn pa j d) S) u d S).1 := g2
      have g4' : s4 = cpf l (gwl nsk (fun i => W (pa i)) lf wi j) 4 := g4
      have g3' : 1 ≤ (odL (fun d S => odE (wkq W lf wi K) m (m - (K - e)) (u ||| 2 ^ d) (updn pa j d) S) u d S).1 → ∀ i, i < m → s3 i = nI ((odL (fun d S => odE (wkq W lf wi K) m (m - (K - e)) (u ||| 2 ^ d) (updn pa j d) S) u d S).2 i) := g3
      have g5' : ∀ i, i < j → s5 i = nI (pa i) := g5
      subst g1' g2' g4'
      show ∃ s', F_Har_extendPath_L65 (F_Har_extendPath (c + e + 1)) (nI T) (nI K) (nI m) (cpf w wi 4) (cpf we W 8) (nI A) (nI j) (nI u) (nI (gwc nsk (fun i => W (pa i)) lf wi j)) (nI d) _ s3 _ s5 = some (Sum.inl s') ∧ _
      have hle := hLp d
      have hw1 : nI (gwc nsk (fun i => W (pa i)) lf wi j) + (if nI A < nI K - nI j then nI A else nI K - nI j) = nI (gwc nsk (fun i => W (pa i)) lf wi j + Mn) := by
        rw [hMn, nI_addS (by omega)]
      unfold F_Har_extendPath_L65
      rw [if_neg (nI_leN hd (by omega)), holds_bt _ (show d < 31 by omega), Option.bind_some, nI_1, hw1]
      cases hbt : bt (nI u) d
      · have eL : odL (fun d S => odE (wkq W lf wi K) m (m - (K - e)) (u ||| 2 ^ d) (updn pa j d) S) u (d + 1) S = odE (wkq W lf wi K) m (m - (K - e)) (u ||| 2 ^ d) (updn pa j d) (odL (fun d S => odE (wkq W lf wi K) m (m - (K - e)) (u ||| 2 ^ d) (updn pa j d) S) u d S) := by
          rw [odL, if_neg (by rw [hbt]; decide)]
        rw [eL]
        generalize odL (fun d S => odE (wkq W lf wi K) m (m - (K - e)) (u ||| 2 ^ d) (updn pa j d) S) u d S = Sd at *
        rw [if_pos (by decide)]
        by_cases ch : (if nI T < nI (gwc nsk (fun i => W (pa i)) lf wi j + Mn) then nI T else nI (gwc nsk (fun i => W (pa i)) lf wi j + Mn)) ≤ mst Sd.1
        · rw [if_pos ch]
          have ch2 := (min_le (by omega) (by omega) (by omega)).mp ch
          have hskip := odE_skip2 (wk := wkq W lf wi K) hm8 (m - (K - e)) (u ||| 2 ^ d) (updn pa j d) Sd (by omega) (or_lt hu (by omega)) (fun q hq => by
            have hx : Ext m (m - (K - e) + 1) u pa q := Ext_step hm8 hu hd hbt (by omega) (by rw [hjm]; exact hq)
            obtain ⟨a1, a2⟩ := Ext_all (r := m - (K - e) + 1) (by rw [hjm]; exact hpr) hx
            have q1 : wkq W lf wi K q ≤ T := hcut q (fun i hi => a1 i (by omega)) (fun i i2 hi hi2 => a2 i i2 (by omega) (by omega))
            have q2 : gwc nsk (fun i => W (q i)) lf wi j = gwc nsk (fun i => W (pa i)) lf wi j := gwc_cong j (fun i hi => by
              show W (q i) = W (pa i)
              rw [hx.1 i (by omega)])
            have q3 := gwc_step (fun i => W (q i)) lf wi j (K - j)
            rw [show j + (K - j) = K by omega] at q3
            have q4 : wkq W lf wi K q = gwc nsk (fun i => W (q i)) lf wi K := rfl
            have q5 := wkq_able (W := W) (lf := lf) (wi := wi) hK (show m - (m - (K - e) + 1) ≤ K by omega) hx
            rw [hjm, hA] at q5
            omega)
          rw [hskip]
          exact ⟨_, rfl, rfl, rfl, g3', rfl, g5'⟩
        · rw [if_neg ch, ck_nI _ (show d < 8 by omega) (by omega), nI_clamp (show d < 2 ^ 31 by omega), cpf_at (show d < 8 by omega), C_work, Option.bind_some, ffw_cp, spl_cp, ck_nI _ (show j < 8 by omega) (by omega)]
          have hk2 : rnk (u ||| 2 ^ d) m = m - (K - e) := by
            have := rnk_hi hu (show d < 8 by omega) hbt m hd hm8
            omega
          have cl : ∀ i, i < j → (fun i => W (updn pa j d i)) i = (fun i => W (pa i)) i := fun i hi => by
            show W (updn pa j d i) = W (pa i)
            rw [updn, if_neg (by omega)]
          have eW : W (updn pa j d j) = W d := by rw [updn, if_pos rfl]
          have eG : gwl nsk (fun i => W (updn pa j d i)) lf wi (K - e) = spl (gwl nsk (fun i => W (pa i)) lf wi j) wi (W d) := by
            rw [hj1, gwl, if_neg (nsk_n j), gwl_cong j cl, eW]
          have eC : gwc nsk (fun i => W (updn pa j d i)) lf wi (K - e) = if (ffw (gwl nsk (fun i => W (pa i)) lf wi j) wi (W d)).isSome = true then gwc nsk (fun i => W (pa i)) lf wi j + 1 else gwc nsk (fun i => W (pa i)) lf wi j := by
            rw [hj1, gwc, if_neg (nsk_n j), gwl_cong j cl, gwc_cong j cl, eW]
          obtain ⟨o, o1, o2, o3, o4, o5⟩ := C_ext hm8 hK l w we W lf wi hT hcut c e (u ||| 2 ^ d) (updn pa j d) Sd s3 (upd s5 j (nI d)) (by omega) (or_lt hu (by omega)) hk2 (by rw [hj1]; exact Pre_step hm8 hu hd hbt hpr) hle (fun i hi => by
            by_cases ci : i = j
            · subst ci
              rw [updA, updn, if_pos rfl]
            · rw [updN _ _ ci, updn, if_neg ci]
              exact g5' i (by omega)) g3'
          have eS : nI u ||| ((1 : Int32) <<< ((nI d : Int32) &&& 31)) = nI (u ||| 2 ^ d) := by
            rw [shl_4 (show d < 8 by omega)]
            have h2 : 2 ^ d < 2 ^ 8 := Nat.pow_lt_pow_right (by omega) (show d < 8 by omega)
            exact or_nI hu h2
          have fin : ∀ s3_15 : Int32, s3_15 = nI (gwc nsk (fun i => W (updn pa j d i)) lf wi (K - e)) → F_Har_extendPath_J138_16 (F_Har_extendPath (c + e + 1)) (nI T) (nI K) (nI m) (cpf w wi 4) (cpf we W 8) s3 (mst Sd.1) s5 (nI d) (ixO (ffw (gwl nsk (fun i => W (pa i)) lf wi j) wi (W d)), cpf l (spl (gwl nsk (fun i => W (pa i)) lf wi j) wi (W d)) 4) (nI j) (nI u) s3_15 = some (Sum.inl (nI (d + 1), o.1, o.2.1, cpf l (gwl nsk (fun i => W (pa i)) lf wi j) 4, o.2.2.2)) := by
            intro z hz
            unfold F_Har_extendPath_J138_16
            rw [eS, nI_1, nI_clamp (show j < 2 ^ 31 by omega), hz, nI_1, ← hj1]
            show (F_Har_extendPath (c + e + 1) (nI T) (nI K) (nI m) (mst Sd.1) s3 (cpf l (spl (gwl nsk (fun i => W (pa i)) lf wi j) wi (W d)) 4) (cpf w wi 4) (upd s5 j (nI d)) (cpf we W 8) (nI (K - e)) (nI (u ||| 2 ^ d)) (nI (gwc nsk (fun i => W (updn pa j d i)) lf wi (K - e)))).bind _ = _
            rw [← eG, o1, Option.bind_some, o4, eG, C_undo, Option.bind_some]
          have key : (if ixO (ffw (gwl nsk (fun i => W (pa i)) lf wi j) wi (W d)) < 0 then F_Har_extendPath_J138_16 (F_Har_extendPath (c + e + 1)) (nI T) (nI K) (nI m) (cpf w wi 4) (cpf we W 8) s3 (mst Sd.1) s5 (nI d) (ixO (ffw (gwl nsk (fun i => W (pa i)) lf wi j) wi (W d)), cpf l (spl (gwl nsk (fun i => W (pa i)) lf wi j) wi (W d)) 4) (nI j) (nI u) (nI (gwc nsk (fun i => W (pa i)) lf wi j)) else F_Har_extendPath_J138_16 (F_Har_extendPath (c + e + 1)) (nI T) (nI K) (nI m) (cpf w wi 4) (cpf we W 8) s3 (mst Sd.1) s5 (nI d) (ixO (ffw (gwl nsk (fun i => W (pa i)) lf wi j) wi (W d)), cpf l (spl (gwl nsk (fun i => W (pa i)) lf wi j) wi (W d)) 4) (nI j) (nI u) (nI (gwc nsk (fun i => W (pa i)) lf wi j) + 1)) = some (Sum.inl (nI (d + 1), o.1, o.2.1, cpf l (gwl nsk (fun i => W (pa i)) lf wi j) 4, o.2.2.2)) := by
            cases ef : ffw (gwl nsk (fun i => W (pa i)) lf wi j) wi (W d) with
            | none =>
              rw [ef] at eC fin
              rw [if_pos (show ixO none < 0 by decide)]
              exact fin _ (by rw [eC]; rfl)
            | some f =>
              obtain ⟨h4, -, -⟩ := ffw_in ef
              rw [ef] at eC fin
              rw [if_neg (show ¬ ixO (some f) < 0 from nI_ge0 (by omega))]
              exact fin _ (by rw [eC, nI_1]; rfl)
          refine ⟨_, key, rfl, o2, o3, rfl, fun i hi => ?_⟩
          rw [o5 i (by omega), updn, if_neg (by omega)]
      · have eL : odL (fun d S => odE (wkq W lf wi K) m (m - (K - e)) (u ||| 2 ^ d) (updn pa j d) S) u (d + 1) S = odL (fun d S => odE (wkq W lf wi K) m (m - (K - e)) (u ||| 2 ^ d) (updn pa j d) S) u d S := by
          rw [odL, if_pos hbt]
        rw [eL, if_neg (by decide)]
        exact ⟨_, rfl, rfl, rfl, g3', rfl, g5'⟩
    · obtain ⟨s1, s2, s3, s4, s5⟩ := s
      obtain ⟨g1, g2, g3, g4, g5⟩ := hs
      have g1' : s1 = nI m := g1
      subst g1'
      show ∃ r, F_Har_extendPath_L65 (F_Har_extendPath (c + e + 1)) (nI T) (nI K) (nI m) (cpf w wi 4) (cpf we W 8) (nI A) (nI j) (nI u) (nI (gwc nsk (fun i => W (pa i)) lf wi j)) (nI m) s2 s3 s4 s5 = some (Sum.inr r) ∧ _
      unfold F_Har_extendPath_L65
      rw [if_pos (nI_le (Nat.le_refl m) (by omega))]
      exact ⟨_, rfl, g2, g3, g4, g5⟩
    · obtain ⟨e1, e2⟩ := hr
      rw [e1]
      exact ⟨_, rfl, e2⟩
