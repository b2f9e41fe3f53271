-- what is got in
def gwl (skip : Nat → Bool) (we lf wi : Nat → Int32) : Nat → Nat → Int32
  | 0 => lf
  | d + 1 => if skip d = true then gwl skip we lf wi d else spl (gwl skip we lf wi d) wi (we d)
def gwc (skip : Nat → Bool) (we lf wi : Nat → Int32) : Nat → Nat
  | 0 => 0
  | d + 1 => if skip d = true then gwc skip we lf wi d else if (ffw (gwl skip we lf wi d) wi (we d)).isSome = true then gwc skip we lf wi d + 1 else gwc skip we lf wi d
def gwd (skip : Nat → Bool) (we lf wi : Nat → Int32) (dn : Int32) : Nat → Int32
  | 0 => dn
  | d + 1 => if skip d = true then gwd skip we lf wi dn d else spd (gwl skip we lf wi d) wi (we d) (gwd skip we lf wi dn d)
theorem gwc_le (skip : Nat → Bool) (we lf wi : Nat → Int32) : ∀ d, gwc skip we lf wi d ≤ d
  | 0 => Nat.le_refl 0
  | d + 1 => by
    have := gwc_le skip we lf wi d
    rw [gwc]
    split
    · omega
    · split <;> omega
theorem spl_out {lf wi : Nat → Int32} {w : Int32} {j : Nat} (h : 4 ≤ j) : spl lf wi w j = lf j := by
  cases e : ffw lf wi w with
  | none => rw [spl_n e]
  | some f =>
    obtain ⟨h4, -, -⟩ := ffw_in e
    rw [spl_y e]
    exact if_neg (by omega)
theorem gwl_out (skip : Nat → Bool) (we lf wi : Nat → Int32) {j : Nat} (h : 4 ≤ j) : ∀ d, gwl skip we lf wi d j = lf j
  | 0 => rfl
  | d + 1 => by
    rw [gwl]
    by_cases c : skip d = true
    · rw [if_pos c]
      exact gwl_out skip we lf wi h d
    · rw [if_neg c, spl_out h]
      exact gwl_out skip we lf wi h d
theorem gwl_sum (skip : Nat → Bool) (we lf wi : Nat → Int32) : ∀ d, aLf (gwl skip we lf wi d) + nI (gwc skip we lf wi d) = aLf lf
  | 0 => Int32.add_zero _
  | d + 1 => by
    have ih := gwl_sum skip we lf wi d
    rw [gwl, gwc]
    by_cases c : skip d = true
    · rw [if_pos c, if_pos c]
      exact ih
    · rw [if_neg c, if_neg c]
      cases e : ffw (gwl skip we lf wi d) wi (we d) with
      | none =>
        rw [spl_n e]
        exact ih
      | some f =>
        obtain ⟨h4, -, -⟩ := ffw_in e
        rw [spl_y e, if_pos (show (some f).isSome = true from rfl), ← nI_1, ← Int32.add_assoc, arc, aLf_upd h4]
        exact ih
theorem gwl_got (skip : Nat → Bool) (we lf wi : Nat → Int32) (d : Nat) : aLf lf - aLf (gwl skip we lf wi d) = nI (gwc skip we lf wi d) := by
  have h := gwl_sum skip we lf wi d
  rw [← h, Int32.add_comm, Int32.add_sub_cancel]
theorem ffw_cp (l lf w wi : Nat → Int32) (x : Int32) : ffw (cpf l lf 4) (cpf w wi 4) x = ffw lf wi x := ffw_cong (fun j hj => cpf_at hj) (fun j hj => cpf_at hj)
theorem upd_cp (l lf : Nat → Int32) {f : Nat} (v : Int32) (hf : f < 4) : upd (cpf l lf 4) f v = cpf l (upd lf f v) 4 := by
  funext j
  unfold upd cpf
  by_cases c : j = f
  · rw [if_pos c, if_pos (by omega)]
    exact (if_pos c).symm
  · rw [if_neg c]
    by_cases d : j < 4
    · rw [if_pos d, if_pos d]
      exact (if_neg c).symm
    · rw [if_neg d, if_neg d]
theorem spl_cp (l lf w wi : Nat → Int32) (x : Int32) : spl (cpf l lf 4) (cpf w wi 4) x = cpf l (spl lf wi x) 4 := by
  cases e : ffw lf wi x with
  | none =>
    have e2 : ffw (cpf l lf 4) (cpf w wi 4) x = none := by rw [ffw_cp]; exact e
    rw [spl_n e, spl_n e2]
  | some f =>
    have e2 : ffw (cpf l lf 4) (cpf w wi 4) x = some f := by rw [ffw_cp]; exact e
    obtain ⟨h4, -, -⟩ := ffw_in e
    rw [spl_y e, spl_y e2, cpf_at h4, upd_cp _ _ _ h4]
theorem C_gather {m : Nat} (hm8 : m ≤ 8) (skip : Nat → Bool) {x2 : Int32} (hs : ∀ d, d < m → bt x2 d = skip d) (l w we lf wi go hm wt : Nat → Int32) : F_Har_gather l w we (nI m) lf wi go hm wt x2 = some (nI (gwc skip (wthr go wt hm m) lf wi m), nI m, cpf l (gwl skip (wthr go wt hm m) lf wi m) 4, cpf w wi 4, cpf we (wthr go wt hm m) 8) := by
  unfold F_Har_gather
  rw [C_begin hm8, Option.bind_some]
  have e : wh (fun (s : (Int32) × (Int32) × (Nat → Int32)) => F_Har_gather_L10 (nI m, cpf l lf 4, cpf w wi 4, cpf we (wthr go wt hm m) 8) x2 s.1 s.2.1 s.2.2) 400 ((0 : Int32), (0 : Int32), cpf l lf 4) = some (nI (gwc skip (wthr go wt hm m) lf wi m), cpf l (gwl skip (wthr go wt hm m) lf wi m) 4) := by
    refine wh_for (fun i => (nI (gwc skip (wthr go wt hm m) lf wi i), nI i, cpf l (gwl skip (wthr go wt hm m) lf wi i) 4)) m (nI (gwc skip (wthr go wt hm m) lf wi m), cpf l (gwl skip (wthr go wt hm m) lf wi m) 4) (fun i hi => ?_) ?_ 400 (by omega)
    · show F_Har_gather_L10 (nI m, cpf l lf 4, cpf w wi 4, cpf we (wthr go wt hm m) 8) x2 (nI (gwc skip (wthr go wt hm m) lf wi i)) (nI i) (cpf l (gwl skip (wthr go wt hm m) lf wi i) 4) = some (Sum.inl (nI (gwc skip (wthr go wt hm m) lf wi (i + 1)), nI (i + 1), cpf l (gwl skip (wthr go wt hm m) lf wi (i + 1)) 4))
      unfold F_Har_gather_L10
      show (if nI m ≤ nI i then _ else _) = _
      rw [if_neg (nI_leN hi (by omega)), holds_bt _ (show i < 31 by omega), Option.bind_some, hs i hi, nI_1, gwc, gwl]
      cases c : skip i with
      | true => rfl
      | false =>
        show ck (nI i) 8 ((F_Fld_work (cpf l (gwl skip (wthr go wt hm m) lf wi i) 4) (cpf w wi 4) (cpf we (wthr go wt hm m) 8 (nI i).toNatClampNeg)).bind _) = _
        rw [ck_nI _ (show i < 8 by omega) (by omega), nI_clamp (show i < 2 ^ 31 by omega), cpf_at (show i < 8 by omega), C_work, Option.bind_some, ffw_cp, spl_cp, if_neg (show ¬ false = true by decide), if_neg (show ¬ false = true by decide)]
        cases e : ffw (gwl skip (wthr go wt hm m) lf wi i) wi (wthr go wt hm m i) with
        | none => rfl
        | some f =>
          obtain ⟨h4, -, -⟩ := ffw_in e
          show (if nI f < 0 then _ else _) = _
          rw [if_neg (nI_ge0 (by omega)), nI_1]
          rfl
    · show F_Har_gather_L10 (nI m, cpf l lf 4, cpf w wi 4, cpf we (wthr go wt hm m) 8) x2 _ (nI m) _ = _
      unfold F_Har_gather_L10
      exact if_pos (by show nI m ≤ nI m; rw [i32_le]; omega)
  show ((wh (fun (s : (Int32) × (Int32) × (Nat → Int32)) => F_Har_gather_L10 (nI m, cpf l lf 4, cpf w wi 4, cpf we (wthr go wt hm m) 8) x2 s.1 s.2.1 s.2.2) 400 ((0 : Int32), (0 : Int32), cpf l lf 4)).bind _) = _
  rw [e, Option.bind_some]
theorem M_gotW {fg kd go hm wt lf wi : Nat → Int32} {n m : Nat} (hn : n ≤ 8) (hm8 : m ≤ 8) (ht : ∀ j, j < n → ∃ k f, k < 6 ∧ f ≤ 9 ∧ kd j = nI k ∧ fg j = nI f ∧ go j = nI (gw k f)) (hd : ∀ j, j < m → ∃ h, h < 2 ^ n ∧ hm j = nI h) (dn : Int32) (kept : Nat → Int32) (skip : Nat → Bool) {x1 : Int32} (hs : ∀ d, d < m → (nI d = x1 ↔ skip d = true)) : F_M_gotWithout (nI m) dn (nI n) fg hm kept kd lf wi wt x1 = some (nI (gwc skip (wthr go wt hm m) lf wi m), nI m, dn, 0, 1, nI 41, nI n, fg, hm, cpf kept (evS (nI n) (nI m) dn wt kd fg hm wi lf) 41, kd, lf, wi, wt) := by
  unfold F_M_gotWithout
  rw [M_all, Option.bind_some, M_think, Option.bind_some]
  have e : wh (fun (s : (Int32) × (Int32) × (Nat → Int32)) => F_M_gotWithout_L11 (nI m, dn, 1, 1, nI 41, nI n, fg, hm, cpf kept (evS (nI n) (nI m) dn wt kd fg hm wi lf) 41, kd, lf, wi, wt) x1 s.1 s.2.1 s.2.2) 400 ((0 : Int32), dn, lf) = some (gwd skip (wthr go wt hm m) lf wi dn m, gwl skip (wthr go wt hm m) lf wi m) := by
    refine wh_for (fun i => (nI i, gwd skip (wthr go wt hm m) lf wi dn i, gwl skip (wthr go wt hm m) lf wi i)) m (gwd skip (wthr go wt hm m) lf wi dn m, gwl skip (wthr go wt hm m) lf wi m) (fun i hi => ?_) ?_ 400 (by omega)
    · show F_M_gotWithout_L11 (nI m, dn, 1, 1, nI 41, nI n, fg, hm, cpf kept (evS (nI n) (nI m) dn wt kd fg hm wi lf) 41, kd, lf, wi, wt) x1 (nI i) (gwd skip (wthr go wt hm m) lf wi dn i) (gwl skip (wthr go wt hm m) lf wi i) = some (Sum.inl (nI (i + 1), gwd skip (wthr go wt hm m) lf wi dn (i + 1), gwl skip (wthr go wt hm m) lf wi (i + 1)))
      unfold F_M_gotWithout_L11
      show (if nI m ≤ nI i then _ else if nI i = x1 then _ else (F_M_likelyOn (nI n) fg hm kd wt (nI i)).bind _) = _
      rw [if_neg (nI_leN hi (by omega)), nI_1, gwd, gwl]
      by_cases c : skip i = true
      · rw [if_pos ((hs i hi).mpr c), if_pos c, if_pos c]
      · rw [if_neg (fun h => c ((hs i hi).mp h)), if_neg c, if_neg c, M_on hn hm8 ht hd hi, Option.bind_some, ← wthr_y (go := go) (wt := wt) (hm := hm) hi]
        show (F_M_spendWith (gwd skip (wthr go wt hm m) lf wi dn i) (gwl skip (wthr go wt hm m) lf wi i) wi (wthr go wt hm m i)).bind _ = _
        rw [M_spend (wthr_or go wt hm m i), Option.bind_some]
    · show F_M_gotWithout_L11 (nI m, dn, 1, 1, nI 41, nI n, fg, hm, cpf kept (evS (nI n) (nI m) dn wt kd fg hm wi lf) 41, kd, lf, wi, wt) x1 (nI m) _ _ = _
      unfold F_M_gotWithout_L11
      exact if_pos (by show nI m ≤ nI m; rw [i32_le]; omega)
  show ((wh (fun (s : (Int32) × (Int32) × (Nat → Int32)) => F_M_gotWithout_L11 (nI m, dn, 1, 1, nI 41, nI n, fg, hm, cpf kept (evS (nI n) (nI m) dn wt kd fg hm wi lf) 41, kd, lf, wi, wt) x1 s.1 s.2.1 s.2.2) 400 ((0 : Int32), dn, lf)).bind _) = _
  rw [e, Option.bind_some, M_all, Option.bind_some]
  show (F_M_again (nI m) (gwd skip (wthr go wt hm m) lf wi dn m) (nI n) fg hm (cpf kept (evS (nI n) (nI m) dn wt kd fg hm wi lf) 41) kd (gwl skip (wthr go wt hm m) lf wi m) wi wt).bind _ = _
  rw [M_again (evS_Enc kept (nI n) (nI m) dn wt kd fg hm wi lf), Option.bind_some, cpf_id, cpf_id, cpf_id, cpf_id, cpf_id, cpf_back (c := lf) (fun j hj => rfl) (fun j hj => gwl_out skip (wthr go wt hm m) lf wi hj m), gwl_got]
