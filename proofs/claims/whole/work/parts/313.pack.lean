-- the model's side of pack
def pkS (sc : Nat → Int32) (s : Option Nat) : Int32 := match s with | none => 0 | some b => sc b
theorem pkk_no {keep : Nat → Nat → Bool} {go : Nat → Int32} {X : Int32} {i : Nat} (c : ¬ CB go (nI i) = X) : pkk keep go X (i + 1) = pkk keep go X i := by
  rw [pkk]
  cases e : pkk keep go X i with
  | none => exact if_neg c
  | some b =>
    show (if keep b i = true then some b else if CB go (nI i) = X then some i else some b) = some b
    rw [if_neg c]
    split <;> rfl
theorem P_pack {hk : Int32} {th : Int32} {dy : Int32} {dn : Int32} {wt : Nat → Int32} {kd : Nat → Int32} {fg : Nat → Int32} {go : Nat → Int32} {hm : Nat → Int32} {wi : Nat → Int32} {lf : Nat → Int32} {kth : Int32} {kdy : Int32} {kdn : Int32} {kwt : Nat → Int32} {kkd : Nat → Int32} {kfg : Nat → Int32} {kgo : Nat → Int32} {khm : Nat → Int32} {kwi : Nat → Int32} {klf : Nat → Int32} {sc : Int32} {sg : Nat → Nat} {sp : Nat → Int32} {sl : Nat → Int32} {sb : Nat → Int32} {sf : Nat → Int32} {sd : Nat → Int32} {lc : Int32} {lt : Nat → Int32} {nc : Int32} {nu : Nat → Int32} {rf : Nat → Int32} {im : Nat → Int32} {tu : Nat → Int32} (hI : Inv th dy dn wt kd fg go hm wi lf hk kth kdy kdn kwt kkd kfg kgo khm kwi klf im sc sg sp sl sb sf sd tu lt lc nu nc) (x1 : Int32) (x2 : Int32) : ∃ (r : Int32) (rf' : Nat → Int32) (m_thrown' : Int32), F_H_pack th fg go kd rf x1 x2 = some (r, rf') ∧ F_M_pack th fg kd rf x1 x2 = some (r, m_thrown', rf') := by
  obtain ⟨⟨n, m, q, hn, hm8, hq, rfl, rfl, rfl, hw, ht, hd, hf⟩, -⟩ := hI
  obtain ⟨p1, p2⟩ := pow_le hn
  rcases inR x1 6 (by omega) with ⟨w, hw6, rfl⟩ | h
  · have c0 := M_in0_y 6 5 hw6 (by omega) (by decide +kernel)
    rcases inR x2 2 (by omega) with ⟨v, hv2, rfl⟩ | h
    · have c1 : F_M_wrongBit 0 (nI v) 1 = some 0 := by
        unfold F_M_wrongBit
        rw [if_pos rfl, M_in0_y 2 (Int32.toInt64 1) hv2 (by omega) (by decide +kernel)]
        rfl
      have eM : ∀ (x2 : Int32) (sc : Nat → Int32) (keep : Nat → Nat → Bool), (∀ i, i < 2 ^ n → ∀ b, b < 2 ^ n → (keep b i = true ↔ sc b ≤ sc i)) → (∀ i y4 y5, i < 2 ^ n → (if x2 = 0 then ((F_M_allHeavy (nI n) fg kd (nI i)).bind (fun q_20 => (F_M_pack_J91_11 y4 y5 (nI i) q_20))) else ((F_M_allDear (nI n) fg kd (nI i)).bind (fun q_19 => (F_M_pack_J91_11 y4 y5 (nI i) (-q_19))))) = F_M_pack_J91_11 y4 y5 (nI i) (sc i)) → ∀ {f : Int32 → Option (Int32 × Int32 × (Nat → Int32))}, (wh (fun (s : (Int32) × (Int32) × (Int32)) => F_M_pack_L48 (nI n) fg kd (nI w) x2 s.1 s.2.1 s.2.2) 400 (((-9) : Int32), (0 : Int32), (0 : Int32))).bind f = f (smA (pkk keep go ((1 : Int32) <<< ((nI w) &&& 31)) (2 ^ n))) := by
        intro x2 sc keep hk hs f
        refine wh_forB (fun i => (smA (pkk keep go ((1 : Int32) <<< ((nI w) &&& 31)) i), pkS sc (pkk keep go ((1 : Int32) <<< ((nI w) &&& 31)) i), nI i)) (2 ^ n) _ 400 (by omega) (fun i hi => ?_) ?_
        · show F_M_pack_L48 (nI n) fg kd (nI w) x2 _ _ (nI i) = some (Sum.inl (smA (pkk keep go ((1 : Int32) <<< ((nI w) &&& 31)) (i + 1)), pkS sc (pkk keep go ((1 : Int32) <<< ((nI w) &&& 31)) (i + 1)), nI (i + 1)))
          unfold F_M_pack_L48
          rw [shl_n hn, if_neg (nI_leN hi (by omega)), M_CB hn ht hi, Option.bind_some]
          by_cases c : CB go (nI i) = (1 : Int32) <<< ((nI w) &&& 31)
          · rw [if_pos c, hs i _ _ hi]
            unfold F_M_pack_J91_11 F_M_pack_J105_17 F_M_pack_J110_13 F_M_pack_J124_15
            have hlt := pkk_lt keep go ((1 : Int32) <<< ((nI w) &&& 31)) i
            rw [nI_1, pkk]
            cases e : pkk keep go ((1 : Int32) <<< ((nI w) &&& 31)) i with
            | none =>
              show some (Sum.inl (nI i, sc i, nI (i + 1))) = some (Sum.inl (smA (if CB go (nI i) = (1 : Int32) <<< ((nI w) &&& 31) then some i else none), pkS sc (if CB go (nI i) = (1 : Int32) <<< ((nI w) &&& 31) then some i else none), nI (i + 1)))
              rw [if_pos c]
              rfl
            | some b =>
              have hb := hlt b e
              show (if nI b < 0 then _ else if sc b ≤ sc i then some (Sum.inl (nI b, sc b, nI (i + 1))) else some (Sum.inl (nI i, sc i, nI (i + 1)))) = some (Sum.inl (smA (if keep b i = true then some b else if CB go (nI i) = (1 : Int32) <<< ((nI w) &&& 31) then some i else some b), pkS sc (if keep b i = true then some b else if CB go (nI i) = (1 : Int32) <<< ((nI w) &&& 31) then some i else some b), nI (i + 1)))
              rw [if_neg (nI_ge0 (show b < 2 ^ 31 by omega))]
              by_cases c2 : sc b ≤ sc i
              · rw [if_pos c2, if_pos ((hk i hi b (by omega)).mpr c2)]; rfl
              · rw [if_neg c2, if_neg (fun h => c2 ((hk i hi b (by omega)).mp h)), if_pos c]; rfl
          · rw [if_neg c, pkk_no c, nI_1]
        · show F_M_pack_L48 (nI n) fg kd (nI w) x2 _ _ (nI (2 ^ n)) = _
          unfold F_M_pack_L48
          rw [shl_n hn, if_pos (nI_le (Nat.le_refl _) (by omega))]
      rcases (show v = 0 ∨ v = 1 by omega) with rfl | rfl
      · refine ⟨smA (pkk (kpH kd fg) go ((1 : Int32) <<< ((nI w) &&& 31)) (2 ^ n)), rf, 0, ?_, ?_⟩
        · unfold F_H_pack
          rw [isW_y hw6, C_packH hn]
          rfl
        · unfold F_M_pack F_M_pack_J22_3
          rw [c0, Option.bind_some, if_neg (by decide), c1, Option.bind_some, if_pos (by decide)]
          refine (eM (nI 0) (fun s => wsm (hvf kd fg) (nI s) 8) (kpH kd fg) (fun i hi b hb => decide_eq_true_iff) (fun i y4 y5 hi => ?_)).trans rfl
          rw [if_pos (show nI 0 = 0 from rfl), M_HV hn ht hi, Option.bind_some]
      · refine ⟨smA (pkk (kpD kd fg) go ((1 : Int32) <<< ((nI w) &&& 31)) (2 ^ n)), rf, 0, ?_, ?_⟩
        · unfold F_H_pack
          rw [isW_y hw6, C_packD hn]
          rfl
        · unfold F_M_pack F_M_pack_J22_3
          rw [c0, Option.bind_some, if_neg (by decide), c1, Option.bind_some, if_pos (by decide)]
          refine (eM (nI 1) (fun s => -(wsm (drf kd fg) (nI s) 8)) (kpD kd fg) (fun i hi b hb => ?_) (fun i y4 y5 hi => ?_)).trans rfl
          · obtain ⟨si, a1, a2⟩ := dr_99 hn ht hi
            obtain ⟨sb, b1, b2⟩ := dr_99 hn ht hb
            unfold kpD
            rw [a2, b2, neg_le b1 a1]
            exact decide_eq_true_iff
          · rw [if_neg (by decide), M_DR hn ht hi, Option.bind_some]
    · refine ⟨-2, rfx rf 2, 0, ?_, ?_⟩
      · unfold F_H_pack
        rw [isW_y hw6, Option.bind_some, if_neg (by decide), if_neg (outC h 0 0 (by omega) (by omega) rfl), if_neg (outC h 1 1 (by omega) (by omega) rfl)]
        rfl
      · have c1 : F_M_wrongBit 0 x2 1 = some (-2) := by
          unfold F_M_wrongBit
          rw [if_pos rfl, M_in0_n 2 (Int32.toInt64 1) h (by omega) (by omega) (by decide +kernel)]
          rfl
        unfold F_M_pack F_M_pack_J22_3
        rw [c0, Option.bind_some, if_neg (by decide), c1]
        rfl
  · refine ⟨-1, rfx rf 1, 0, ?_, ?_⟩
    · unfold F_H_pack; rw [isW_n h]; rfl
    · unfold F_M_pack; rw [M_in0_n 6 5 h (by omega) (by omega) (by decide +kernel)]; rfl
