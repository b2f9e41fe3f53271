-- halls: the model's reader
def tdS (L : Nat → Nat) (td : Nat → Int32) (j p : Nat) : Prop := td (3 * j) = nI (numN L (p + 1) (if L p = 100 then 3 else 1)) ∧ ((L p = 116 ∨ L p = 119 ∨ L p = 112 ∨ L p = 102) → td (3 * j + 1) = nI (numN L (p + 2) (if L p = 102 then 2 else 1))) ∧ (L p = 102 → td (3 * j + 2) = nI (numN L (p + 4) 1))
theorem head_or {c : Nat} (h : dgb c ≠ 0) : (c = 100 ∧ dgb c = 3) ∨ (c = 102 ∧ dgb c = 4) ∨ (c = 112 ∧ dgb c = 2) ∨ (c = 115 ∧ dgb c = 1) ∨ (c = 116 ∧ dgb c = 2) ∨ (c = 119 ∧ dgb c = 2) := by
  unfold dgb at *
  by_cases c1 : c = 100
  · exact Or.inl ⟨c1, if_pos c1⟩
  · rw [if_neg c1] at h ⊢
    by_cases c2 : c = 102
    · exact Or.inr (Or.inl ⟨c2, if_pos c2⟩)
    · rw [if_neg c2] at h ⊢
      by_cases c3 : c = 112
      · exact Or.inr (Or.inr (Or.inl ⟨c3, if_pos c3⟩))
      · rw [if_neg c3] at h ⊢
        by_cases c4 : c = 115
        · exact Or.inr (Or.inr (Or.inr (Or.inl ⟨c4, if_pos c4⟩)))
        · rw [if_neg c4] at h ⊢
          by_cases c5 : c = 116
          · exact Or.inr (Or.inr (Or.inr (Or.inr (Or.inl ⟨c5, if_pos c5⟩))))
          · rw [if_neg c5] at h ⊢
            by_cases c6 : c = 119
            · exact Or.inr (Or.inr (Or.inr (Or.inr (Or.inr ⟨c6, if_pos c6⟩))))
            · rw [if_neg c6] at h
              exact absurd rfl h
theorem M_nums {N p j : Nat} {L : Nat → Nat} {lt td : Nat → Int32} (hN : N ≤ 96) (hL : ∀ p, p < N → lt p = nI (L p) ∧ L p ≤ 255) (hp : p < N) (hk : dgb (L p) ≠ 0) (hj : j ≤ 40) : ∃ td', F_M_readNumbers (nI (p + 1)) 0 (nI N) lt td (nI (L p)) (nI (3 * j)) = some (nI (p + 1 + min (dgb (L p)) (zd N L (p + 1) 5)), rb (zd N L (p + 1) 5) (dgb (L p)), td') ∧ (∀ i, i < 3 * j → td' i = td i) ∧ (dgb (L p) ≤ zd N L (p + 1) 5 → tdS L td' j p) := by
  obtain ⟨z, hz⟩ : ∃ z, z = zd N L (p + 1) 5 := ⟨_, rfl⟩
  rw [← hz]
  have hb0 : rb z 0 = 0 := if_pos (Nat.zero_le z)
  have hm0 : p + 1 + min 0 z = p + 1 := by omega
  have R : ∀ i d, d ≤ 3 → i + d ≤ 4 → ∃ v, F_M_readDigits (nI (p + 1 + min i z)) (rb z i) (nI N) lt (nI d) = some (v, nI (p + 1 + min (i + d) z), rb z (i + d)) ∧ (i + d ≤ z → v = nI (numN L (p + 1 + i) d)) := fun i d h1 h2 => M_rd hN hL (show p + 1 ≤ N by omega) hz h1 h2
  have two : ∀ c, L p = c → (c = 112 ∨ c = 116 ∨ c = 119) → dgb (L p) = 2 → ∃ td', F_M_readNumbers (nI (p + 1)) 0 (nI N) lt td (nI (L p)) (nI (3 * j)) = some (nI (p + 1 + min (dgb (L p)) z), rb z (dgb (L p)), td') ∧ (∀ i, i < 3 * j → td' i = td i) ∧ (dgb (L p) ≤ z → tdS L td' j p) := by
    intro c hc hor h2
    obtain ⟨v1, e1, w1⟩ := R 0 1 (by omega) (by omega)
    obtain ⟨v2, e2, w2⟩ := R 1 1 (by omega) (by omega)
    rw [hm0, hb0] at e1
    refine ⟨upd (upd td (3 * j) v1) (3 * j + 1) v2, ?_, fun i hi => ?_, fun hle => ⟨?_, fun _ => ?_, fun h => ?_⟩⟩
    · have eJ : F_M_readNumbers_J74_7 (nI N) lt td (v1, nI (p + 1 + min (0 + 1) z), rb z (0 + 1)) (nI (3 * j)) = some (nI (p + 1 + min 2 z), rb z 2, upd (upd td (3 * j) v1) (3 * j + 1) v2) := by
        unfold F_M_readNumbers_J74_7
        show (F_M_readDigits (nI (p + 1 + min 1 z)) (rb z 1) (nI N) lt (nI 1)).bind _ = _
        rw [e2, Option.bind_some, nI_1, ck_nI _ (show 3 * j + 1 < 147 by omega) (by omega), nI_clamp (show 3 * j < 2 ^ 31 by omega), nI_clamp (show 3 * j + 1 < 2 ^ 31 by omega)]
      have e1' : F_M_readDigits (nI (p + 1)) 0 (nI N) lt 1 = some (v1, nI (p + 1 + min (0 + 1) z), rb z (0 + 1)) := e1
      rw [hc] at h2 ⊢
      rw [h2]
      unfold F_M_readNumbers F_M_readNumbers_J17_2
      rcases hor with rfl | rfl | rfl
      · rw [if_neg (show ¬ nI 112 = 100 by decide), e1', Option.bind_some, ck_nI _ (show 3 * j < 147 by omega) (by omega), if_neg (show ¬ nI 112 = 102 by decide), if_neg (show ¬ nI 112 = 116 by decide), if_neg (show ¬ nI 112 = 119 by decide), if_pos (show nI 112 = 112 from rfl), eJ]
      · rw [if_neg (show ¬ nI 116 = 100 by decide), e1', Option.bind_some, ck_nI _ (show 3 * j < 147 by omega) (by omega), if_neg (show ¬ nI 116 = 102 by decide), if_pos (show nI 116 = 116 from rfl), eJ]
      · rw [if_neg (show ¬ nI 119 = 100 by decide), e1', Option.bind_some, ck_nI _ (show 3 * j < 147 by omega) (by omega), if_neg (show ¬ nI 119 = 102 by decide), if_neg (show ¬ nI 119 = 116 by decide), if_pos (show nI 119 = 119 from rfl), eJ]
    · rw [updN _ _ (by omega), updN _ _ (by omega)]
    · rw [updN _ _ (by omega), updA, w1 (by omega), if_neg (show ¬ L p = 100 by omega)]
    · rw [updA, w2 (by omega), if_neg (show ¬ L p = 102 by omega), show p + 1 + 1 = p + 2 by omega]
    · omega
  rcases head_or hk with ⟨hc, h2⟩ | ⟨hc, h2⟩ | ⟨hc, h2⟩ | ⟨hc, h2⟩ | ⟨hc, h2⟩ | ⟨hc, h2⟩
  · obtain ⟨v1, e1, w1⟩ := R 0 3 (by omega) (by omega)
    rw [hm0, hb0] at e1
    refine ⟨upd td (3 * j) v1, ?_, fun i hi => ?_, fun hle => ⟨?_, fun h => ?_, fun h => ?_⟩⟩
    · have e1' : F_M_readDigits (nI (p + 1)) 0 (nI N) lt 3 = some (v1, nI (p + 1 + min (0 + 3) z), rb z (0 + 3)) := e1
      rw [h2, hc]
      unfold F_M_readNumbers F_M_readNumbers_J17_2
      rw [if_pos (show nI 100 = 100 from rfl), e1', Option.bind_some, ck_nI _ (show 3 * j < 147 by omega) (by omega), if_neg (show ¬ nI 100 = 102 by decide), if_neg (show ¬ nI 100 = 116 by decide), if_neg (show ¬ nI 100 = 119 by decide), if_neg (show ¬ nI 100 = 112 by decide), nI_clamp (show 3 * j < 2 ^ 31 by omega)]
    · rw [updN _ _ (by omega)]
    · rw [updA, w1 (by omega), if_pos hc]
    · omega
    · omega
  · obtain ⟨v1, e1, w1⟩ := R 0 1 (by omega) (by omega)
    obtain ⟨v2, e2, w2⟩ := R 1 2 (by omega) (by omega)
    obtain ⟨v3, e3, w3⟩ := R 3 1 (by omega) (by omega)
    rw [hm0, hb0] at e1
    refine ⟨upd (upd (upd td (3 * j) v1) (3 * j + 1) v2) (3 * j + 2) v3, ?_, fun i hi => ?_, fun hle => ⟨?_, fun _ => ?_, fun _ => ?_⟩⟩
    · have e1' : F_M_readDigits (nI (p + 1)) 0 (nI N) lt 1 = some (v1, nI (p + 1 + min (0 + 1) z), rb z (0 + 1)) := e1
      have e2' : F_M_readDigits (nI (p + 1 + min (0 + 1) z)) (rb z (0 + 1)) (nI N) lt 2 = some (v2, nI (p + 1 + min (1 + 2) z), rb z (1 + 2)) := e2
      have e3' : F_M_readDigits (nI (p + 1 + min (1 + 2) z)) (rb z (1 + 2)) (nI N) lt 1 = some (v3, nI (p + 1 + min (3 + 1) z), rb z (3 + 1)) := e3
      have e4 : nI (3 * j) + 2 = nI (3 * j + 2) := nI_addS (b := 2) (by omega)
      rw [h2, hc]
      unfold F_M_readNumbers F_M_readNumbers_J17_2
      rw [if_neg (show ¬ nI 102 = 100 by decide), e1', Option.bind_some, ck_nI _ (show 3 * j < 147 by omega) (by omega), if_pos (show nI 102 = 102 from rfl), e2', Option.bind_some, nI_1, ck_nI _ (show 3 * j + 1 < 147 by omega) (by omega), e3', Option.bind_some, e4, ck_nI _ (show 3 * j + 2 < 147 by omega) (by omega), nI_clamp (show 3 * j < 2 ^ 31 by omega), nI_clamp (show 3 * j + 1 < 2 ^ 31 by omega), nI_clamp (show 3 * j + 2 < 2 ^ 31 by omega)]
    · rw [updN _ _ (by omega), updN _ _ (by omega), updN _ _ (by omega)]
    · rw [updN _ _ (by omega), updN _ _ (by omega), updA, w1 (by omega), if_neg (show ¬ L p = 100 by omega)]
    · rw [updN _ _ (by omega), updA, w2 (by omega), if_pos hc, show p + 1 + 1 = p + 2 by omega]
    · rw [updA, w3 (by omega), show p + 1 + 3 = p + 4 by omega]
  · exact two 112 hc (Or.inl rfl) h2
  · obtain ⟨v1, e1, w1⟩ := R 0 1 (by omega) (by omega)
    rw [hm0, hb0] at e1
    refine ⟨upd td (3 * j) v1, ?_, fun i hi => ?_, fun hle => ⟨?_, fun h => ?_, fun h => ?_⟩⟩
    · have e1' : F_M_readDigits (nI (p + 1)) 0 (nI N) lt 1 = some (v1, nI (p + 1 + min (0 + 1) z), rb z (0 + 1)) := e1
      rw [h2, hc]
      unfold F_M_readNumbers F_M_readNumbers_J17_2
      rw [if_neg (show ¬ nI 115 = 100 by decide), e1', Option.bind_some, ck_nI _ (show 3 * j < 147 by omega) (by omega), if_neg (show ¬ nI 115 = 102 by decide), if_neg (show ¬ nI 115 = 116 by decide), if_neg (show ¬ nI 115 = 119 by decide), if_neg (show ¬ nI 115 = 112 by decide), nI_clamp (show 3 * j < 2 ^ 31 by omega)]
    · rw [updN _ _ (by omega)]
    · rw [updA, w1 (by omega), if_neg (show ¬ L p = 100 by omega)]
    · omega
    · omega
  · exact two 116 hc (Or.inr (Or.inl rfl)) h2
  · exact two 119 hc (Or.inr (Or.inr rfl)) h2
theorem mul3 {j : Nat} (hj : j ≤ 48) : (3 : Int32) * nI j = nI (3 * j) := by
  have key : ∀ j : Fin 49, (3 : Int32) * nI j.val = nI (3 * j.val) := by decide +kernel
  exact key ⟨j, by omega⟩
theorem M_stmt {N p j : Nat} {L : Nat → Nat} {lt td lo pl : Nat → Int32} (hN : N ≤ 96) (hL : ∀ p, p < N → lt p = nI (L p) ∧ L p ≤ 255) (hp : p < N) (hj : j ≤ 40) : ∃ td' lo' pl', F_M_readStatement (nI p) 0 (nI N) (nI j) lo lt pl td = some (nI (if gdS N L p = true then p + (dgb (L p) + 2) else bq N L p), (if gdS N L p = true then 0 else 1), nI (j + 1), lo', pl', td') ∧ (gdS N L p = true → (∀ i, i < 3 * j → td' i = td i) ∧ tdS L td' j p ∧ lo' = upd lo j (lt p) ∧ pl' = upd pl j (nI p)) := by
  obtain ⟨l1, l2⟩ := hL p hp
  by_cases hk : dgb (L p) = 0
  · have hg : ¬ gdS N L p = true := fun h => (gdS_y h).2.1 hk
    refine ⟨td, upd lo j (lt p), upd pl j (nI p), ?_, fun h => absurd h hg⟩
    rw [if_neg hg, if_neg hg]
    unfold F_M_readStatement F_M_readStatement_J42_19 F_M_readStatement_J47_5 F_M_readStatement_J67_8 F_M_readStatement_J86_10 F_M_readStatement_J103_15 F_M_readStatement_J108_12 ckz
    rw [M_here1 hN hp, Option.bind_some, ck_nI _ (show j < 49 by omega) (by omega), ck_nI _ (show j < 49 by omega) (by omega), if_pos rfl]
    rw [show F_M_isLetter (lt p) = some (if dgb (L p) = 0 then 0 else 1) by rw [l1]; exact M_head l2, Option.bind_some, if_pos hk, if_pos rfl, if_pos (Or.inr rfl), if_neg (show ¬ (1 : Int32) = 0 by decide), if_neg (show ¬ (1 : Int32) = 0 by decide), if_neg (show ¬ (1 : Int32) = 0 by decide), if_pos (Or.inr rfl), if_neg (show ¬ (1 : Int32) = 0 by decide), nI_clamp (show j < 2 ^ 31 by omega), nI_1, Int32.add_zero, Int32.add_zero, bq, if_pos hk]
  · obtain ⟨td', n1, n2, n3⟩ := M_nums (td := td) hN hL hp hk hj
    have hz := zd_N (N := N) (L := L) 5 (show p + 1 ≤ N by omega)
    have h4 := dgb_le (L p)
    refine ⟨td', upd lo j (lt p), upd pl j (nI p), ?_, fun hg => ⟨n2, n3 (gdS_y hg).2.2.1, rfl, rfl⟩⟩
    unfold F_M_readStatement F_M_readStatement_J47_5 F_M_readStatement_J67_8
    rw [M_here1 hN hp, Option.bind_some, ck_nI _ (show j < 49 by omega) (by omega), ck_nI _ (show j < 49 by omega) (by omega), if_pos rfl]
    rw [show F_M_isLetter (lt p) = some (if dgb (L p) = 0 then 0 else 1) by rw [l1]; exact M_head l2, Option.bind_some, if_neg hk, if_neg (show ¬ (1 : Int32) = 0 by decide)]
    unfold ckz
    rw [if_pos (Or.inl rfl), if_pos rfl, if_pos rfl, nI_1, mul3 (by omega), show lt p = nI (L p) from l1, n1, Option.bind_some]
    have fin : ∀ a : Nat, F_M_readStatement_J103_15 (nI p) (nI j) lo pl (nI (L p)) (nI a) td' = some (nI a, 1, nI (j + 1), upd lo j (nI (L p)), upd pl j (nI p), td') := by
      intro a
      unfold F_M_readStatement_J103_15 F_M_readStatement_J108_12 ckz
      rw [if_pos (Or.inr rfl), if_neg (show ¬ (1 : Int32) = 0 by decide), nI_clamp (show j < 2 ^ 31 by omega), nI_1, Int32.add_zero]
    show F_M_readStatement_J86_10 (nI p) (nI N) (nI j) lo lt pl (nI (L p)) (nI (p + 1 + min (dgb (L p)) (zd N L (p + 1) 5))) (rb (zd N L (p + 1) 5) (dgb (L p))) td' = _
    unfold F_M_readStatement_J86_10
    have eb : bq N L p = p + 1 + min (zd N L (p + 1) 5) (dgb (L p)) := if_neg hk
    by_cases c : dgb (L p) ≤ zd N L (p + 1) 5
    · rw [show rb (zd N L (p + 1) 5) (dgb (L p)) = 0 from if_pos c, if_pos rfl, Nat.min_eq_left c]
      by_cases c2 : p + 1 + dgb (L p) < N
      · obtain ⟨m1, m2⟩ := hL _ c2
        rw [M_here1 hN c2, Option.bind_some, m1]
        by_cases c3 : L (p + 1 + dgb (L p)) = 59
        · have hg : gdS N L p = true := by
            unfold gdS
            rw [decide_eq_true hp, decide_eq_true hk, decide_eq_true c, decide_eq_true c2, decide_eq_true c3]
            rfl
          unfold F_M_readStatement_J108_12 ckz
          rw [c3, if_pos (show nI 59 = 59 from rfl), if_pos (Or.inl rfl), if_pos rfl, if_pos hg, if_pos hg, nI_clamp (show j < 2 ^ 31 by omega), nI_1, nI_1, show p + 1 + dgb (L p) + 1 = p + (dgb (L p) + 2) by omega]
        · have hg : ¬ gdS N L p = true := fun h => c3 (gdS_y h).2.2.2.2
          rw [if_neg (show ¬ nI (L (p + 1 + dgb (L p))) = 59 from neC 59 59 c3 (by omega) (by omega) rfl), fin, if_neg hg, if_neg hg, eb, Nat.min_eq_right c]
      · have hg : ¬ gdS N L p = true := fun h => c2 (gdS_y h).2.2.2.1
        rw [M_here0 hN (by omega) (by omega), Option.bind_some, if_neg (show ¬ (-1 : Int32) = 59 by decide), fin, if_neg hg, if_neg hg, eb, Nat.min_eq_right c]
    · have hg : ¬ gdS N L p = true := fun h => c (gdS_y h).2.2.1
      rw [show rb (zd N L (p + 1) 5) (dgb (L p)) = 1 from if_neg c, if_neg (show ¬ (1 : Int32) = 0 by decide), fin, if_neg hg, if_neg hg, eb, Nat.min_comm]
theorem M_stmt0 (lt td lo pl : Nat → Int32) : ∃ lo' pl', F_M_readStatement (nI 0) 0 (nI 0) (nI 0) lo lt pl td = some (nI 0, 1, nI 1, lo', pl', td) := ⟨_, _, rfl⟩
