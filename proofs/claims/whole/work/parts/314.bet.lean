-- the bet
theorem wins_eq (x0 x1 a b : Int32) : F_Dia_winsBy x0 x1 a b = F_M_winBy x0 x1 a b := by
  unfold F_Dia_winsBy F_M_winBy F_Dia_winsBy_J16_3 F_Dia_winsBy_J27_5 F_M_winBy_J23_4
  by_cases h : x0 = x1
  · rw [if_pos h, if_pos h]
  · rw [if_neg h, if_neg h]
    by_cases e : a = b
    · subst e
      by_cases h0 : x0 = 0 <;> simp [h0]
    · have e' : ¬ b = a := fun h => e h.symm
      by_cases c : a ≤ b
      · have c' : ¬ b ≤ a := fun h => e (Int32.le_antisymm c h)
        by_cases h0 : x0 = 0 <;> simp [h0, e, e', c, c']
      · have c' : b ≤ a := (Int32.le_total a b).resolve_left c
        by_cases h0 : x0 = 0 <;> simp [h0, e, e', c, c']
theorem win_rep {a b a' b' : Int32} (h1 : a = b ↔ a' = b') (h2 : a ≤ b ↔ a' ≤ b') (x0 x1 : Int32) : F_M_winBy x0 x1 a b = F_M_winBy x0 x1 a' b' := by
  unfold F_M_winBy F_M_winBy_J23_4
  simp only [h1, h2]
theorem bet_rep (a b : Int32) : ∃ a' b' : Int32, ((a' = 0 ∧ b' = 0) ∨ (a' = 0 ∧ b' = 1) ∨ (a' = 1 ∧ b' = 0)) ∧ (a = b ↔ a' = b') ∧ (a ≤ b ↔ a' ≤ b') := by
  by_cases e : a = b
  · exact ⟨0, 0, Or.inl ⟨rfl, rfl⟩, by simp [e], by simp [e]⟩
  · by_cases c : a ≤ b
    · exact ⟨0, 1, Or.inr (Or.inl ⟨rfl, rfl⟩), iff_of_false e (by decide), iff_of_true c (by decide)⟩
    · exact ⟨1, 0, Or.inr (Or.inr ⟨rfl, rfl⟩), iff_of_false e (by decide), iff_of_false c (by decide)⟩
def bto (rf : Nat → Int32) (a b : Int32) : Option (Int32 × Int32 × (Nat → Int32)) := (wh (fun (s : (Int32)) => F_M_bet_L58 rf a b s) 400 (0 : Int32)).bind (sx (fun e_12 => (some ((-9), 0, rf))) (fun o => some o))
theorem C_rep {a b a' b' : Int32} (h1 : a = b ↔ a' = b') (h2 : a ≤ b ↔ a' ≤ b') : F_Dia_firstSettledBet a b = F_Dia_firstSettledBet a' b' := by
  have e1 : ∀ y, F_Dia_firstSettledBet_L9 y a b = F_Dia_firstSettledBet_L9 y a' b' := by
    intro y
    funext s
    unfold F_Dia_firstSettledBet_L9
    simp only [wins_eq, win_rep h1 h2]
  unfold F_Dia_firstSettledBet F_Dia_firstSettledBet_L2
  simp only [e1]
theorem M_rep (rf : Nat → Int32) {a b a' b' : Int32} (h1 : a = b ↔ a' = b') (h2 : a ≤ b ↔ a' ≤ b') : bto rf a b = bto rf a' b' := by
  have e1 : F_M_bet_L58 rf a b = F_M_bet_L58 rf a' b' := by
    funext s
    unfold F_M_bet_L58
    simp only [win_rep h1 h2]
  unfold bto
  rw [e1]
theorem bet_fin (rf : Nat → Int32) (a b : Int32) : ∃ r, F_Dia_firstSettledBet a b = some r ∧ bto rf a b = some (r, 0, rf) := by
  obtain ⟨a', b', h, h1, h2⟩ := bet_rep a b
  rw [C_rep h1 h2, M_rep rf h1 h2]
  rcases h with ⟨rfl, rfl⟩ | ⟨rfl, rfl⟩ | ⟨rfl, rfl⟩
  · exact ⟨(F_Dia_firstSettledBet 0 0).getD 0, by decide +kernel, rfl⟩
  · exact ⟨(F_Dia_firstSettledBet 0 1).getD 0, by decide +kernel, rfl⟩
  · exact ⟨(F_Dia_firstSettledBet 1 0).getD 0, by decide +kernel, rfl⟩
theorem P_bet {hk : Int32} {th : Int32} {dy : Int32} {dn : Int32} {wt : Nat → Int32} {kd : Nat → Int32} {fg : Nat → Int32} {go : Nat → Int32} {hm : Nat → Int32} {wi : Nat → Int32} {lf : Nat → Int32} {kth : Int32} {kdy : Int32} {kdn : Int32} {kwt : Nat → Int32} {kkd : Nat → Int32} {kfg : Nat → Int32} {kgo : Nat → Int32} {khm : Nat → Int32} {kwi : Nat → Int32} {klf : Nat → Int32} {sc : Int32} {sg : Nat → Nat} {sp : Nat → Int32} {sl : Nat → Int32} {sb : Nat → Int32} {sf : Nat → Int32} {sd : Nat → Int32} {lc : Int32} {lt : Nat → Int32} {nc : Int32} {nu : Nat → Int32} {rf : Nat → Int32} {im : Nat → Int32} {tu : Nat → Int32} (hI : Inv th dy dn wt kd fg go hm wi lf hk kth kdy kdn kwt kkd kfg kgo khm kwi klf im sc sg sp sl sb sf sd tu lt lc nu nc) (x1 : Int32) (x2 : Int32) : ∃ (r : Int32) (rf' : Nat → Int32) (m_thrown' : Int32), F_H_bet dy fg hm kd rf x1 x2 = some (r, rf') ∧ F_M_bet dy th fg hm kd rf x1 x2 = some (r, m_thrown', rf') := by
  obtain ⟨⟨n, m, q, hn, hm8, hq, rfl, rfl, rfl, hw, ht, hd, hf⟩, -⟩ := hI
  rcases inR x1 m (by omega) with ⟨d, hdm, rfl⟩ | h
  · rcases inR x2 m (by omega) with ⟨d2, hdm2, rfl⟩ | h
    · by_cases e : nI d = nI d2
      · refine ⟨-1, rfx rf 1, 0, ?_, ?_⟩
        · unfold F_H_bet; rw [hasD_y hdm hm8, Option.bind_some, if_neg (by decide), hasD_y hdm2 hm8, Option.bind_some, if_neg (by decide), if_pos e]; rfl
        · unfold F_M_bet; rw [isD_y hdm hm8, Option.bind_some, if_neg (by decide), isD_y hdm2 hm8, Option.bind_some, if_neg (by decide), if_pos e]; rfl
      · obtain ⟨g1, a1, a2⟩ := hd d hdm
        obtain ⟨g2, b1, b2⟩ := hd d2 hdm2
        obtain ⟨r, r1, r2⟩ := bet_fin rf (wsm (drf kd fg) (nI g1) 8) (wsm (drf kd fg) (nI g2) 8)
        refine ⟨r, rf, 0, ?_, ?_⟩
        · unfold F_H_bet
          rw [hasD_y hdm hm8, Option.bind_some, if_neg (by decide), hasD_y hdm2 hm8, Option.bind_some, if_neg (by decide), if_neg e, ck_nI _ (show d < 8 by omega) (by omega), nI_clamp (show d < 2 ^ 31 by omega), a2, C_dear, Option.bind_some, ck_nI _ (show d2 < 8 by omega) (by omega), nI_clamp (show d2 < 2 ^ 31 by omega), b2, C_dear, Option.bind_some, r1]
          rfl
        · unfold F_M_bet
          rw [isD_y hdm hm8, Option.bind_some, if_neg (by decide), isD_y hdm2 hm8, Option.bind_some, if_neg (by decide), if_neg e, ck_nI _ (show d < 8 by omega) (by omega), nI_clamp (show d < 2 ^ 31 by omega), a2, M_DR hn ht a1, Option.bind_some, ck_nI _ (show d2 < 8 by omega) (by omega), nI_clamp (show d2 < 2 ^ 31 by omega), b2, M_DR hn ht b1, Option.bind_some]
          exact r2
    · refine ⟨-1, rfx rf 1, 0, ?_, ?_⟩
      · unfold F_H_bet; rw [hasD_y hdm hm8, Option.bind_some, if_neg (by decide), hasD_n h]; rfl
      · unfold F_M_bet; rw [isD_y hdm hm8, Option.bind_some, if_neg (by decide), isD_n h hm8]; rfl
  · refine ⟨-1, rfx rf 1, 0, ?_, ?_⟩
    · unfold F_H_bet; rw [hasD_n h]; rfl
    · unfold F_M_bet; rw [isD_n h hm8]; rfl
