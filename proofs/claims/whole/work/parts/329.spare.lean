-- gotIn and spare
theorem cpf_cpf (a b c : Nat → Int32) (i : Nat) : cpf (cpf a b i) c i = cpf a c i := by
  funext j
  unfold cpf
  by_cases d : j < i
  · rw [if_pos d, if_pos d]
  · rw [if_neg d, if_neg d, if_neg d]
def emS (lf : Nat → Int32) : Nat → Int32
  | 0 => 0
  | f + 1 => if lf f = 0 then emS lf f ||| nI (2 ^ f) else emS lf f
theorem emS_cp (l lf : Nat → Int32) : ∀ f, f ≤ 4 → emS (cpf l lf 4) f = emS lf f
  | 0, _ => rfl
  | f + 1, h => by
    rw [emS, emS, emS_cp l lf f (by omega), cpf_at (by omega)]
theorem C_empt (lf : Nat → Int32) : F_Fld_emptied lf = some (emS lf 4) := by
  unfold F_Fld_emptied
  refine (wh_forB (fun i => (emS lf i, nI i)) 4 (emS lf 4) 400 (by omega) (fun i hi => ?_) ?_).trans rfl
  · show F_Fld_emptied_L4 lf (emS lf i) (nI i) = some (Sum.inl (emS lf (i + 1), nI (i + 1)))
    unfold F_Fld_emptied_L4
    rw [if_neg (nleC 4 4 hi (by omega) rfl), ck_nI _ hi (by omega), nI_clamp (show i < 2 ^ 31 by omega), nI_1, shl_4 (by omega), emS]
    by_cases c : lf i = 0
    · rw [if_pos c, if_pos c]
    · rw [if_neg c, if_neg c]
  · rfl
theorem M_empt (lf : Nat → Int32) : F_M_emptyFields lf = some (emS lf 4) := by
  unfold F_M_emptyFields
  refine (wh_forB (fun i => (emS lf i, nI i)) 4 (emS lf 4) 400 (by omega) (fun i hi => ?_) ?_).trans rfl
  · show F_M_emptyFields_L4 lf (emS lf i) (nI i) = some (Sum.inl (emS lf (i + 1), nI (i + 1)))
    unfold F_M_emptyFields_L4
    rw [if_neg (nleC 4 4 hi (by omega) rfl), ck_nI _ hi (by omega), nI_clamp (show i < 2 ^ 31 by omega), nI_1, shl_4 (by omega), emS]
    by_cases c : lf i = 0
    · rw [if_pos c, if_pos c]
    · rw [if_neg c, if_neg c, Int32.or_zero]
  · rfl
def nsk : Nat → Bool := fun _ => false
theorem nsk_n (d : Nat) : ¬ nsk d = true := fun h => by cases h
theorem P_gotIn {hk : Int32} {th : Int32} {dy : Int32} {dn : Int32} {wt : Nat → Int32} {kd : Nat → Int32} {fg : Nat → Int32} {go : Nat → Int32} {hm : Nat → Int32} {wi : Nat → Int32} {lf : Nat → Int32} {kth : Int32} {kdy : Int32} {kdn : Int32} {kwt : Nat → Int32} {kkd : Nat → Int32} {kfg : Nat → Int32} {kgo : Nat → Int32} {khm : Nat → Int32} {kwi : Nat → Int32} {klf : Nat → Int32} {sc : Int32} {sg : Nat → Nat} {sp : Nat → Int32} {sl : Nat → Int32} {sb : Nat → Int32} {sf : Nat → Int32} {sd : Nat → Int32} {lc : Int32} {lt : Nat → Int32} {nc : Int32} {nu : Nat → Int32} {h_days : Int32} {h_fields_wishes : Nat → Int32} {h_fields_lefts : Nat → Int32} {h_weathers : Nat → Int32} {rf : Nat → Int32} {m_place0 : Int32} {m_isTaking : Int32} {m_keptIn : Int32} {m_kept : Nat → Int32} {im : Nat → Int32} {tu : Nat → Int32} (hI : Inv th dy dn wt kd fg go hm wi lf hk kth kdy kdn kwt kkd kfg kgo khm kwi klf im sc sg sp sl sb sf sd tu lt lc nu nc) (x1 : Int32) : ∃ (r : Int32) (h_days' : Int32) (h_fields_wishes' : Nat → Int32) (h_fields_lefts' : Nat → Int32) (h_weathers' : Nat → Int32) (rf' : Nat → Int32) (m_thrown' : Int32) (m_place0' : Int32) (m_isTaking' : Int32) (m_keptIn' : Int32) (m_kept' : Nat → Int32), F_H_gotIn h_days h_fields_lefts h_fields_wishes h_weathers dy lf wi go hm wt rf x1 = some (r, h_days', h_fields_lefts', h_fields_wishes', h_weathers', rf') ∧ F_M_gotIn dy dn m_isTaking m_keptIn m_place0 th fg hm m_kept kd lf rf wi wt x1 = some (r, dy, dn, m_isTaking', m_keptIn', m_place0', th, m_thrown', fg, hm, m_kept', kd, lf, rf', wi, wt) := by
  obtain ⟨⟨n, m, q, hn, hm8, hq, rfl, rfl, rfl, hw, ht, hd, hf⟩, -⟩ := hI
  have hs : ∀ d, d < m → bt 0 d = nsk d := fun d h => bt00 d (by omega)
  have hs2 : ∀ d, d < m → (nI d = -9 ↔ nsk d = true) := fun d h => ⟨fun e => absurd e (nI_ne9 (by omega)), fun e => absurd e (nsk_n d)⟩
  rcases inR x1 2 (by omega) with ⟨v, hv2, rfl⟩ | h
  · rcases (show v = 0 ∨ v = 1 by omega) with rfl | rfl
    · refine ⟨nI (gwc nsk (wthr go wt hm m) lf wi m), nI m, cpf h_fields_wishes wi 4, cpf h_fields_lefts (gwl nsk (wthr go wt hm m) lf wi m) 4, cpf h_weathers (wthr go wt hm m) 8, rf, 0, nI 41, 0, 1, cpf m_kept (evS (nI n) (nI m) (nI q) wt kd fg hm wi lf) 41, ?_, ?_⟩
      · unfold F_H_gotIn
        rw [if_pos (show nI 0 = 0 from rfl), C_gather hm8 nsk hs, Option.bind_some]
      · unfold F_M_gotIn
        rw [M_in0_y 2 1 hv2 (by omega) (by decide +kernel), Option.bind_some, if_neg (show ¬ (1 : Int32) = 0 by decide), if_pos (show nI 0 = 0 from rfl), M_gotW hn hm8 ht hd (nI q) m_kept nsk hs2, Option.bind_some]
    · refine ⟨emS (gwl nsk (wthr go wt hm m) lf wi m) 4, nI m, cpf h_fields_wishes wi 4, cpf h_fields_lefts (gwl nsk (wthr go wt hm m) lf wi m) 4, cpf h_weathers (wthr go wt hm m) 8, rf, 0, nI 41, 0, 1, cpf m_kept (evS (nI n) (nI m) (nI q) wt kd fg hm wi lf) 41, ?_, ?_⟩
      · unfold F_H_gotIn
        rw [if_neg (by decide), if_pos (by decide), C_gather hm8 nsk hs, Option.bind_some, C_empt, Option.bind_some, emS_cp _ _ 4 (by omega)]
      · unfold F_M_gotIn
        rw [M_in0_y 2 1 hv2 (by omega) (by decide +kernel), Option.bind_some, if_neg (show ¬ (1 : Int32) = 0 by decide), if_neg (show ¬ nI 1 = 0 by decide), M_think, Option.bind_some]
        have e : wh (fun (s : (Int32) × (Int32) × (Nat → Int32)) => F_M_gotIn_L39 (nI m, nI q, 1, 1, nI 41, nI n, fg, hm, cpf m_kept (evS (nI n) (nI m) (nI q) wt kd fg hm wi lf) 41, kd, lf, wi, wt) s.1 s.2.1 s.2.2) 400 ((0 : Int32), nI q, lf) = some (gwd nsk (wthr go wt hm m) lf wi (nI q) m, gwl nsk (wthr go wt hm m) lf wi m) := by
          refine wh_for (fun i => (nI i, gwd nsk (wthr go wt hm m) lf wi (nI q) i, gwl nsk (wthr go wt hm m) lf wi i)) m (gwd nsk (wthr go wt hm m) lf wi (nI q) m, gwl nsk (wthr go wt hm m) lf wi m) (fun i hi => ?_) ?_ 400 (by omega)
          · show F_M_gotIn_L39 (nI m, nI q, 1, 1, nI 41, nI n, fg, hm, cpf m_kept (evS (nI n) (nI m) (nI q) wt kd fg hm wi lf) 41, kd, lf, wi, wt) (nI i) (gwd nsk (wthr go wt hm m) lf wi (nI q) i) (gwl nsk (wthr go wt hm m) lf wi i) = some (Sum.inl (nI (i + 1), gwd nsk (wthr go wt hm m) lf wi (nI q) (i + 1), gwl nsk (wthr go wt hm m) lf wi (i + 1)))
            unfold F_M_gotIn_L39
            show (if nI m ≤ nI i then _ else (F_M_likelyOn (nI n) fg hm kd wt (nI i)).bind _) = _
            rw [if_neg (nI_leN hi (by omega)), nI_1, gwd, gwl, if_neg (nsk_n i), if_neg (nsk_n i), M_on hn hm8 ht hd hi, Option.bind_some, ← wthr_y (go := go) (wt := wt) (hm := hm) hi]
            show (F_M_spendWith (gwd nsk (wthr go wt hm m) lf wi (nI q) i) (gwl nsk (wthr go wt hm m) lf wi i) wi (wthr go wt hm m i)).bind _ = _
            rw [M_spend (wthr_or go wt hm m i), Option.bind_some]
          · show F_M_gotIn_L39 (nI m, nI q, 1, 1, nI 41, nI n, fg, hm, cpf m_kept (evS (nI n) (nI m) (nI q) wt kd fg hm wi lf) 41, kd, lf, wi, wt) (nI m) _ _ = _
            unfold F_M_gotIn_L39
            exact if_pos (by show nI m ≤ nI m; rw [i32_le]; omega)
        show ((wh (fun (s : (Int32) × (Int32) × (Nat → Int32)) => F_M_gotIn_L39 (nI m, nI q, 1, 1, nI 41, nI n, fg, hm, cpf m_kept (evS (nI n) (nI m) (nI q) wt kd fg hm wi lf) 41, kd, lf, wi, wt) s.1 s.2.1 s.2.2) 400 ((0 : Int32), nI q, lf)).bind _) = _
        rw [e, Option.bind_some, M_empt, Option.bind_some]
        show (F_M_again (nI m) (gwd nsk (wthr go wt hm m) lf wi (nI q) m) (nI n) fg hm (cpf m_kept (evS (nI n) (nI m) (nI q) wt kd fg hm wi lf) 41) kd (gwl nsk (wthr go wt hm m) lf wi m) wi wt).bind _ = _
        rw [M_again (evS_Enc m_kept (nI n) (nI m) (nI q) wt kd fg hm wi lf), Option.bind_some, cpf_id, cpf_id, cpf_id, cpf_id, cpf_id, cpf_back (c := lf) (fun j hj => rfl) (fun j hj => gwl_out nsk (wthr go wt hm m) lf wi hj m)]
  · refine ⟨-2, h_days, h_fields_wishes, h_fields_lefts, h_weathers, rfx rf 2, 0, m_place0, m_isTaking, m_keptIn, m_kept, ?_, ?_⟩
    · unfold F_H_gotIn
      rw [if_neg (outC h 0 0 (by omega) (by omega) rfl), if_neg (outC h 1 1 (by omega) (by omega) rfl)]
      rfl
    · unfold F_M_gotIn
      rw [M_in0_n 2 1 h (by omega) (by omega) (by decide +kernel)]
      rfl
def sko : Nat → Nat → Bool
  | 0 => nsk
  | i + 1 => fun d => decide (d = i)
theorem bt_pow {i d : Nat} (hi : i < 8) (hd : d < 8) : bt (nI (2 ^ i)) d = decide (d = i) := by
  have key : ∀ i d : Fin 8, bt (nI (2 ^ i.val)) d.val = decide (d.val = i.val) := by decide +kernel
  exact key ⟨i, hi⟩ ⟨d, hd⟩
def spb (we lf wi : Nat → Int32) (m : Nat) : Nat → Int32
  | 0 => 0
  | i + 1 => if nI (gwc (sko (i + 1)) we lf wi m) = nI (gwc nsk we lf wi m) then spb we lf wi m i ||| nI (2 ^ i) else spb we lf wi m i
theorem P_spare {hk : Int32} {th : Int32} {dy : Int32} {dn : Int32} {wt : Nat → Int32} {kd : Nat → Int32} {fg : Nat → Int32} {go : Nat → Int32} {hm : Nat → Int32} {wi : Nat → Int32} {lf : Nat → Int32} {kth : Int32} {kdy : Int32} {kdn : Int32} {kwt : Nat → Int32} {kkd : Nat → Int32} {kfg : Nat → Int32} {kgo : Nat → Int32} {khm : Nat → Int32} {kwi : Nat → Int32} {klf : Nat → Int32} {sc : Int32} {sg : Nat → Nat} {sp : Nat → Int32} {sl : Nat → Int32} {sb : Nat → Int32} {sf : Nat → Int32} {sd : Nat → Int32} {lc : Int32} {lt : Nat → Int32} {nc : Int32} {nu : Nat → Int32} {h_fields_wishes : Nat → Int32} {h_fields_lefts : Nat → Int32} {h_weathers : Nat → Int32} {m_kept : Nat → Int32} {im : Nat → Int32} {tu : Nat → Int32} (hI : Inv th dy dn wt kd fg go hm wi lf hk kth kdy kdn kwt kkd kfg kgo khm kwi klf im sc sg sp sl sb sf sd tu lt lc nu nc) : ∃ (r : Int32) (h_days' : Int32) (h_fields_wishes' : Nat → Int32) (h_fields_lefts' : Nat → Int32) (h_weathers' : Nat → Int32) (m_thrown' : Int32) (m_place0' : Int32) (m_isTaking' : Int32) (m_keptIn' : Int32) (m_kept' : Nat → Int32), F_H_spare h_fields_lefts h_fields_wishes h_weathers dy lf wi go hm wt = some (r, h_days', h_fields_lefts', h_fields_wishes', h_weathers') ∧ F_M_spare dy dn th fg hm m_kept kd lf wi wt = some (r, dy, dn, m_isTaking', m_keptIn', m_place0', th, m_thrown', fg, hm, m_kept', kd, lf, wi, wt) := by
  obtain ⟨⟨n, m, q, hn, hm8, hq, rfl, rfl, rfl, hw, ht, hd, hf⟩, -⟩ := hI
  have hs : ∀ d, d < m → bt 0 d = nsk d := fun d h => bt00 d (by omega)
  have hs2 : ∀ d, d < m → (nI d = -9 ↔ nsk d = true) := fun d h => ⟨fun e => absurd e (nI_ne9 (by omega)), fun e => absurd e (nsk_n d)⟩
  refine ⟨spb (wthr go wt hm m) lf wi m m, nI m, cpf h_fields_wishes wi 4, cpf h_fields_lefts (gwl (sko m) (wthr go wt hm m) lf wi m) 4, cpf h_weathers (wthr go wt hm m) 8, 0, nI 41, 0, 1, cpf m_kept (evS (nI n) (nI m) (nI q) wt kd fg hm wi lf) 41, ?_, ?_⟩
  · unfold F_H_spare F_Har_spareDays
    rw [C_gather hm8 nsk hs, Option.bind_some]
    refine (congrArg (fun z => Option.bind (Option.bind z _) _) (wh_for (fun i => (spb (wthr go wt hm m) lf wi m i, nI i, nI m, cpf h_fields_lefts (gwl (sko i) (wthr go wt hm m) lf wi m) 4, cpf h_fields_wishes wi 4, cpf h_weathers (wthr go wt hm m) 8)) m (spb (wthr go wt hm m) lf wi m m, nI m, cpf h_fields_lefts (gwl (sko m) (wthr go wt hm m) lf wi m) 4, cpf h_fields_wishes wi 4, cpf h_weathers (wthr go wt hm m) 8) (fun i hi => ?_) ?_ 400 (by omega))).trans ?_
    · show F_Har_spareDays_L12 (nI m) lf wi go hm wt (nI (gwc nsk (wthr go wt hm m) lf wi m), nI m, cpf h_fields_lefts (gwl nsk (wthr go wt hm m) lf wi m) 4, cpf h_fields_wishes wi 4, cpf h_weathers (wthr go wt hm m) 8) (spb (wthr go wt hm m) lf wi m i) (nI i) (nI m) (cpf h_fields_lefts (gwl (sko i) (wthr go wt hm m) lf wi m) 4) (cpf h_fields_wishes wi 4) (cpf h_weathers (wthr go wt hm m) 8) = some (Sum.inl (spb (wthr go wt hm m) lf wi m (i + 1), nI (i + 1), nI m, cpf h_fields_lefts (gwl (sko (i + 1)) (wthr go wt hm m) lf wi m) 4, cpf h_fields_wishes wi 4, cpf h_weathers (wthr go wt hm m) 8))
      unfold F_Har_spareDays_L12
      rw [if_neg (nI_leN hi (by omega)), shl_4 (by omega), C_gather hm8 (sko (i + 1)) (fun d h => bt_pow (by omega) (by omega)), Option.bind_some, cpf_cpf, cpf_cpf, cpf_cpf, nI_1, spb]
      by_cases c : nI (gwc (sko (i + 1)) (wthr go wt hm m) lf wi m) = nI (gwc nsk (wthr go wt hm m) lf wi m)
      · rw [if_pos c, if_pos c]
      · rw [if_neg c, if_neg c]
    · show F_Har_spareDays_L12 (nI m) lf wi go hm wt _ _ (nI m) _ _ _ _ = _
      unfold F_Har_spareDays_L12
      exact if_pos (by rw [i32_le]; omega)
    · rfl
  · unfold F_M_spare
    rw [M_gotW hn hm8 ht hd (nI q) m_kept nsk hs2, Option.bind_some]
    refine (congrArg (fun z => Option.bind z _) (wh_for (fun i => (spb (wthr go wt hm m) lf wi m i, nI i, nI m, nI q, 0, 1, nI 41, nI n, fg, hm, cpf m_kept (evS (nI n) (nI m) (nI q) wt kd fg hm wi lf) 41, kd, lf, wi, wt)) m (spb (wthr go wt hm m) lf wi m m, nI m, nI q, 0, 1, nI 41, nI n, fg, hm, cpf m_kept (evS (nI n) (nI m) (nI q) wt kd fg hm wi lf) 41, kd, lf, wi, wt) (fun i hi => ?_) ?_ 400 (by omega))).trans ?_
    · show F_M_spare_L16 (nI (gwc nsk (wthr go wt hm m) lf wi m), nI m, nI q, 0, 1, nI 41, nI n, fg, hm, cpf m_kept (evS (nI n) (nI m) (nI q) wt kd fg hm wi lf) 41, kd, lf, wi, wt) (spb (wthr go wt hm m) lf wi m i) (nI i) (nI m) (nI q) 0 1 (nI 41) (nI n) fg hm (cpf m_kept (evS (nI n) (nI m) (nI q) wt kd fg hm wi lf) 41) kd lf wi wt = some (Sum.inl (spb (wthr go wt hm m) lf wi m (i + 1), nI (i + 1), nI m, nI q, 0, 1, nI 41, nI n, fg, hm, cpf m_kept (evS (nI n) (nI m) (nI q) wt kd fg hm wi lf) 41, kd, lf, wi, wt))
      unfold F_M_spare_L16
      rw [if_neg (nI_leN hi (by omega)), shl_4 (by omega), M_gotW hn hm8 ht hd (nI q) _ (sko (i + 1)) (fun d h => ⟨fun e => decide_eq_true ((nI_eq (by omega) (by omega)).mp e), fun e => by rw [of_decide_eq_true e]⟩), Option.bind_some, cpf_cpf, nI_1, spb]
      by_cases c : nI (gwc (sko (i + 1)) (wthr go wt hm m) lf wi m) = nI (gwc nsk (wthr go wt hm m) lf wi m)
      · rw [if_pos c, if_pos c]
      · rw [if_neg c, if_neg c, Int32.or_zero]
    · show F_M_spare_L16 _ _ (nI m) (nI m) _ _ _ _ _ _ _ _ _ _ _ _ = _
      unfold F_M_spare_L16
      exact if_pos (by rw [i32_le]; omega)
    · rfl
