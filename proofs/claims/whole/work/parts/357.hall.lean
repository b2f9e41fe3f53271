-- halls: all that is told
def rdS (N : Nat) (L : Nat → Nat) (lt lo pl td : Nat → Int32) (M : Nat) : Prop := ∀ j, j < M → lo j = nI (L (psN L j)) ∧ pl j = nI (psN L j) ∧ tdS L td j (psN L j)
theorem M_all20 {N : Nat} {L : Nat → Nat} {lt : Nat → Int32} (hN : N ≤ 96) (hL : ∀ p, p < N → lt p = nI (L p) ∧ L p ≤ 255) (lo pl td : Nat → Int32) : ∀ M X, (∀ j, j < M → gdS N L (psN L j) = true) → ∃ lo' pl' td', wh (fun (s : (Int32) × (Int32) × (Int32) × (Nat → Int32) × (Nat → Int32) × (Nat → Int32)) => F_M_hall_L20 (nI N) lt s.1 s.2.1 s.2.2.1 s.2.2.2.1 s.2.2.2.2.1 s.2.2.2.2.2) (X + M) ((0 : Int32), (0 : Int32), (0 : Int32), lo, pl, td) = wh (fun (s : (Int32) × (Int32) × (Int32) × (Nat → Int32) × (Nat → Int32) × (Nat → Int32)) => F_M_hall_L20 (nI N) lt s.1 s.2.1 s.2.2.1 s.2.2.2.1 s.2.2.2.2.1 s.2.2.2.2.2) X (nI (psN L M), (0 : Int32), nI M, lo', pl', td') ∧ rdS N L lt lo' pl' td' M
  | 0, X, _ => ⟨lo, pl, td, rfl, fun j hj => absurd hj (by omega)⟩
  | M + 1, X, h => by
    obtain ⟨lo1, pl1, td1, e1, e2⟩ := M_all20 hN hL lo pl td M (X + 1) (fun j hj => h j (by omega))
    have hg := h M (by omega)
    obtain ⟨g1, g2, g3, g4, g5⟩ := gdS_y hg
    obtain ⟨i1, i2⟩ := ps_N (N := N) M (fun j hj => h j (by omega))
    obtain ⟨l1, l2⟩ := hL _ g1
    obtain ⟨td', lo', pl', s1, s2⟩ := M_stmt (j := M) (td := td1) (lo := lo1) (pl := pl1) hN hL g1 (by omega)
    obtain ⟨t1, t2, t3, t4⟩ := s2 hg
    rw [if_pos hg, if_pos hg] at s1
    refine ⟨lo', pl', td', ?_, fun j hj => ?_⟩
    · rw [show X + (M + 1) = X + 1 + M by omega, e1]
      refine wh_inl ?_
      show F_M_hall_L20 (nI N) lt (nI (psN L M)) 0 (nI M) lo1 pl1 td1 = _
      unfold F_M_hall_L20
      rw [if_pos rfl, s1, if_neg (nI_leN g1 (by omega)), Option.bind_some]
      split <;> rfl
    · by_cases c : j = M
      · subst c
        rw [t3, t4, updA, updA]
        exact ⟨l1, rfl, t2⟩
      · obtain ⟨a1, a2, a3, a4, a5⟩ := e2 j (by omega)
        rw [t3, t4, updN _ _ c, updN _ _ c]
        refine ⟨a1, a2, ?_, fun h => ?_, fun h => ?_⟩
        · rw [t1 _ (by omega)]; exact a3
        · rw [t1 _ (by omega)]; exact a4 h
        · rw [t1 _ (by omega)]; exact a5 h
theorem M_readOK {N M : Nat} {L : Nat → Nat} {lt : Nat → Int32} (hN : N ≤ 96) (hL : ∀ p, p < N → lt p = nI (L p) ∧ L p ≤ 255) (h : ∀ j, j < M → gdS N L (psN L j) = true) (hM : 1 ≤ M) (hMN : psN L M = N) (lo pl td : Nat → Int32) : ∃ lo' pl' td', wh (fun (s : (Int32) × (Int32) × (Int32) × (Nat → Int32) × (Nat → Int32) × (Nat → Int32)) => F_M_hall_L20 (nI N) lt s.1 s.2.1 s.2.2.1 s.2.2.2.1 s.2.2.2.2.1 s.2.2.2.2.2) 400 ((0 : Int32), (0 : Int32), (0 : Int32), lo, pl, td) = some (nI N, 0, nI M, lo', pl', td') ∧ rdS N L lt lo' pl' td' M := by
  obtain ⟨i1, i2⟩ := ps_N (N := N) M h
  obtain ⟨lo', pl', td', e1, e2⟩ := M_all20 hN hL lo pl td M (399 - M + 1) h
  refine ⟨lo', pl', td', ?_, e2⟩
  rw [show 399 - M + 1 + M = 400 by omega] at e1
  rw [e1]
  refine wh_inr ?_
  show F_M_hall_L20 (nI N) lt (nI (psN L M)) 0 (nI M) lo' pl' td' = _
  unfold F_M_hall_L20
  rw [if_pos rfl, if_neg (neC 0 0 (show M ≠ 0 by omega) (by omega) (by omega) rfl), hMN, if_pos (nI_le (Nat.le_refl N) (by omega))]
theorem M_readNo {N M : Nat} {L : Nat → Nat} {lt : Nat → Int32} (hN : N ≤ 96) (hL : ∀ p, p < N → lt p = nI (L p) ∧ L p ≤ 255) (h : ∀ j, j < M → gdS N L (psN L j) = true) (hb : gdS N L (psN L M) = false) (hlt : psN L M < N) (lo pl td : Nat → Int32) : ∃ lo' pl' td', wh (fun (s : (Int32) × (Int32) × (Int32) × (Nat → Int32) × (Nat → Int32) × (Nat → Int32)) => F_M_hall_L20 (nI N) lt s.1 s.2.1 s.2.2.1 s.2.2.2.1 s.2.2.2.2.1 s.2.2.2.2.2) 400 ((0 : Int32), (0 : Int32), (0 : Int32), lo, pl, td) = some (nI (bq N L (psN L M)), 1, nI (M + 1), lo', pl', td') := by
  obtain ⟨i1, i2⟩ := ps_N (N := N) M h
  obtain ⟨lo1, pl1, td1, e1, e2⟩ := M_all20 hN hL lo pl td M (398 - M + 1 + 1) h
  obtain ⟨td', lo', pl', s1, s2⟩ := M_stmt (j := M) (td := td1) (lo := lo1) (pl := pl1) hN hL hlt (by omega)
  have hg : ¬ gdS N L (psN L M) = true := by rw [hb]; decide
  rw [if_neg hg, if_neg hg] at s1
  refine ⟨lo', pl', td', ?_⟩
  rw [show 398 - M + 1 + 1 + M = 400 by omega] at e1
  rw [e1]
  have e3 : F_M_hall_L20 (nI N) lt (nI (psN L M)) 0 (nI M) lo1 pl1 td1 = some (Sum.inl (nI (bq N L (psN L M)), 1, nI (M + 1), lo', pl', td')) := by
    unfold F_M_hall_L20
    rw [if_pos rfl, s1, if_neg (nI_leN hlt (by omega)), Option.bind_some]
    split <;> rfl
  refine (wh_inl e3).trans ?_
  refine wh_inr ?_
  show F_M_hall_L20 (nI N) lt (nI (bq N L (psN L M))) 1 (nI (M + 1)) lo' pl' td' = _
  unfold F_M_hall_L20
  rw [if_neg (by decide)]
theorem M_read0 (lt lo pl td : Nat → Int32) : ∃ lo' pl' td', wh (fun (s : (Int32) × (Int32) × (Int32) × (Nat → Int32) × (Nat → Int32) × (Nat → Int32)) => F_M_hall_L20 (nI 0) lt s.1 s.2.1 s.2.2.1 s.2.2.2.1 s.2.2.2.2.1 s.2.2.2.2.2) 400 ((0 : Int32), (0 : Int32), (0 : Int32), lo, pl, td) = some (nI 0, 1, nI 1, lo', pl', td') := by
  obtain ⟨lo', pl', e⟩ := M_stmt0 lt td lo pl
  refine ⟨lo', pl', td, ?_⟩
  have e3 : F_M_hall_L20 (nI 0) lt 0 0 0 lo pl td = some (Sum.inl (nI 0, 1, nI 1, lo', pl', td)) := by
    have e' : F_M_readStatement 0 0 (nI 0) 0 lo lt pl td = some (nI 0, 1, nI 1, lo', pl', td) := e
    unfold F_M_hall_L20
    rw [if_pos rfl, if_pos rfl, e']
    rfl
  refine (wh_inl (n := 399) e3).trans ?_
  refine wh_inr (n := 398) ?_
  show F_M_hall_L20 (nI 0) lt (nI 0) 1 (nI 1) lo' pl' td = _
  unfold F_M_hall_L20
  rw [if_neg (by decide)]
-- two states that agree where it counts
theorem cbs_cong {go go2 : Nat → Int32} (h : Int32) : ∀ t, (∀ i, i < t → go i = go2 i) → cbs go h t = cbs go2 h t
  | 0, _ => rfl
  | t + 1, e => by
    rw [cbs, cbs, cbs_cong h t (fun i hi => e i (by omega)), e t (by omega)]
theorem lks_cong {wt wt2 : Nat → Int32} (x : Int32) : ∀ t, (∀ i, i < t → wt i = wt2 i) → lks wt x t = lks wt2 x t
  | 0, _ => rfl
  | t + 1, e => by
    rw [lks, lks, lks_cong x t (fun i hi => e i (by omega)), e t (by omega)]
theorem LK_cong {go go2 wt wt2 : Nat → Int32} (h : Int32) (e1 : ∀ i, i < 8 → go i = go2 i) (e2 : ∀ i, i < 6 → wt i = wt2 i) : LK go wt h = LK go2 wt2 h := by
  unfold LK CB
  rw [cbs_cong h 8 e1, lks_cong _ 6 e2]
theorem upd_cn (l a : Nat → Int32) {n f : Nat} (v : Int32) (hf : f < n) : upd (cpf l a n) f v = cpf l (upd a f v) n := by
  funext j
  unfold upd cpf
  by_cases c : j = f
  · rw [if_pos c, if_pos (by omega)]
    exact (if_pos c).symm
  · rw [if_neg c]
    by_cases d : j < n
    · rw [if_pos d, if_pos d]
      exact (if_neg c).symm
    · rw [if_neg d, if_neg d]
