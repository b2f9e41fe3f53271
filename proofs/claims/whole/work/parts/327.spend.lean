-- the field that a weather works on
def ffo (lf wi : Nat → Int32) (w : Int32) (i : Nat) : Option Nat := if lf i ≤ 0 then none else if hq w (wi i) = true then some i else none
def ffw (lf wi : Nat → Int32) (w : Int32) : Option Nat := fst1 (ffo lf wi w) 0 4
theorem fst1_cong {α : Type} {o o2 : Nat → Option α} : ∀ k i, (∀ j, i ≤ j → j < i + k → o j = o2 j) → fst1 o i k = fst1 o2 i k
  | 0, _, _ => rfl
  | k + 1, i, h => by
    unfold fst1
    rw [h i (by omega) (by omega), fst1_cong k (i + 1) (fun j h1 h2 => h j (by omega) (by omega))]
theorem ffw_cong {lf lf2 wi wi2 : Nat → Int32} {w : Int32} (h : ∀ j, j < 4 → lf j = lf2 j) (h2 : ∀ j, j < 4 → wi j = wi2 j) : ffw lf wi w = ffw lf2 wi2 w := by
  refine fst1_cong 4 0 (fun j _ hj => ?_)
  unfold ffo
  rw [h j (by omega), h2 j (by omega)]
theorem fst1_in {α : Type} {o : Nat → Option α} {r : α} : ∀ k i, fst1 o i k = some r → ∃ j, i ≤ j ∧ j < i + k ∧ o j = some r
  | 0, i, h => by cases h
  | k + 1, i, h => by
    unfold fst1 at h
    cases e : o i with
    | some x =>
      rw [e] at h
      exact ⟨i, by omega, by omega, by rw [e]; exact h⟩
    | none =>
      rw [e] at h
      obtain ⟨j, h1, h2, h3⟩ := fst1_in k (i + 1) h
      exact ⟨j, by omega, by omega, h3⟩
theorem ffw_in {lf wi : Nat → Int32} {w : Int32} {f : Nat} (h : ffw lf wi w = some f) : f < 4 ∧ ¬ lf f ≤ 0 ∧ hq w (wi f) = true := by
  obtain ⟨j, h1, h2, h3⟩ := fst1_in 4 0 h
  unfold ffo at h3
  by_cases c : lf j ≤ 0
  · rw [if_pos c] at h3; cases h3
  · rw [if_neg c] at h3
    by_cases d : hq w (wi j) = true
    · rw [if_pos d] at h3
      cases h3
      exact ⟨by omega, c, d⟩
    · rw [if_neg d] at h3; cases h3
theorem C_fieldFor (lf wi : Nat → Int32) (w : Int32) : F_Fld_fieldFor lf wi w = some (ixO (ffw lf wi w)) := by
  unfold F_Fld_fieldFor
  refine (wh_findM (fun i => nI i) 4 (ffo lf wi w) (fun r => Sum.inr (nI r)) (Sum.inl ()) 400 (by omega) (fun i hi => ?_) ?_).trans ?_
  · show F_Fld_fieldFor_L2 lf wi w (nI i) = _
    unfold F_Fld_fieldFor_L2 ffo
    rw [if_neg (nleC 4 4 hi (by omega) rfl), ck_nI _ hi (by omega), nI_clamp (show i < 2 ^ 31 by omega), nI_1]
    by_cases c : lf i ≤ 0
    · rw [if_pos c, if_pos c]
    · rw [if_neg c, if_neg c, ck_nI _ hi (by omega), holds_hq, Option.bind_some]
      cases hq w (wi i)
      · rw [if_pos (by decide)]; rfl
      · rw [if_neg (by decide)]; rfl
  · rfl
  · unfold ffw
    cases fst1 (ffo lf wi w) 0 4 <;> rfl
def spl (lf wi : Nat → Int32) (w : Int32) : Nat → Int32 := match ffw lf wi w with | none => lf | some f => upd lf f (lf f - 1)
theorem spl_n {lf wi : Nat → Int32} {w : Int32} (h : ffw lf wi w = none) : spl lf wi w = lf := by unfold spl; rw [h]
theorem spl_y {lf wi : Nat → Int32} {w : Int32} {f : Nat} (h : ffw lf wi w = some f) : spl lf wi w = upd lf f (lf f - 1) := by unfold spl; rw [h]
theorem C_work (lf wi : Nat → Int32) (w : Int32) : F_Fld_work lf wi w = some (ixO (ffw lf wi w), spl lf wi w) := by
  unfold F_Fld_work
  rw [C_fieldFor, Option.bind_some]
  cases e : ffw lf wi w with
  | none =>
    rw [spl_n e]
    rfl
  | some f =>
    obtain ⟨h4, -, -⟩ := ffw_in e
    rw [spl_y e]
    show (F_H_isField (nI f)).bind _ = _
    rw [isF_y h4, Option.bind_some, if_neg (by decide)]
    show ck (nI f) 4 (ck (nI f) 4 (some (nI f, upd lf (nI f).toNatClampNeg (lf (nI f).toNatClampNeg - 1)))) = _
    rw [ck_nI _ h4 (by omega), ck_nI _ h4 (by omega), nI_clamp (show f < 2 ^ 31 by omega)]
    rfl
def spd (lf wi : Nat → Int32) (w dn : Int32) : Int32 := match ffw lf wi w with | none => dn | some _ => if 999 ≤ dn then dn else dn + 1
theorem spd_n {lf wi : Nat → Int32} {w : Int32} (h : ffw lf wi w = none) (dn : Int32) : spd lf wi w dn = dn := by unfold spd; rw [h]
theorem spd_y {lf wi : Nat → Int32} {w : Int32} {f : Nat} (h : ffw lf wi w = some f) (dn : Int32) : spd lf wi w dn = if 999 ≤ dn then dn else dn + 1 := by unfold spd; rw [h]
theorem M_spend {w : Int32} (hw : w = -9 ∨ ∃ k, k < 6 ∧ w = nI k) (dn : Int32) (lf wi : Nat → Int32) : F_M_spendWith dn lf wi w = some (ixO (ffw lf wi w), spd lf wi w dn, spl lf wi w) := by
  unfold F_M_spendWith
  rcases hw with rfl | ⟨k, hk, rfl⟩
  · have e : ffw lf wi (-9) = none := by
      refine fst1_none _ 4 0 (fun j _ hj => ?_)
      unfold ffo
      rw [hq_9]
      by_cases c : lf j ≤ 0
      · rw [if_pos c]
      · rw [if_neg c]
        rfl
    rw [spl_n e, spd_n e, e]
    rfl
  · refine (wh_findM (fun i => nI i) 4 (ffo lf wi (nI k)) (fun f => Sum.inr (nI f, (if 999 ≤ dn then dn else dn + 1), upd lf f (lf f - 1))) (Sum.inl ()) 400 (by omega) (fun i hi => ?_) ?_).trans ?_
    · show F_M_spendWith_L2 dn lf wi (nI k) (nI i) = _
      unfold F_M_spendWith_L2 ffo
      rw [if_neg (nleC 4 4 hi (by omega) rfl), if_neg (nI_ge0 (by omega)), ck_nI _ hi (by omega), nI_clamp (show i < 2 ^ 31 by omega), nI_1]
      by_cases c : lf i ≤ 0
      · rw [if_pos c, if_pos c]
      · rw [if_neg c, if_neg c, ck_nI _ hi (by omega), hasBit_hq (show k < 31 by omega), Option.bind_some]
        cases hq (nI k) (wi i)
        · rw [if_pos (by decide)]; rfl
        · rw [if_neg (by decide), ck_nI _ hi (by omega), ck_nI _ hi (by omega), Int32.add_zero]
          by_cases d : (999 : Int32) ≤ dn
          · rw [if_pos d]
            show _ = some (Sum.inr (Sum.inr (nI i, (if 999 ≤ dn then dn else dn + 1), upd lf i (lf i - 1))))
            rw [if_pos d]
          · rw [if_neg d]
            show _ = some (Sum.inr (Sum.inr (nI i, (if 999 ≤ dn then dn else dn + 1), upd lf i (lf i - 1))))
            rw [if_neg d]
    · rfl
    · cases e : ffw lf wi (nI k) with
      | none =>
        rw [spl_n e, spd_n e]
        unfold ffw at e
        rw [e]
        rfl
      | some f =>
        rw [spl_y e, spd_y e]
        unfold ffw at e
        rw [e]
        rfl
theorem M_think (dy dn th : Int32) (fg hm to kd lf wi wt : Nat → Int32) : F_M_think dy dn th fg hm to kd lf wi wt = some (dy, dn, 1, 1, nI 41, th, fg, hm, cpf to (evS th dy dn wt kd fg hm wi lf) 41, kd, lf, wi, wt) := by
  unfold F_M_think
  rw [TK_kept]
  rfl
theorem M_again {a : Nat → Int32} {th dy dn : Int32} {wt kd fg hm wi lf : Nat → Int32} (hE : Enc a 0 th dy dn wt kd fg hm wi lf) (th2 dy2 dn2 : Int32) (wt2 kd2 fg2 hm2 wi2 lf2 : Nat → Int32) : F_M_again dy2 dn2 th2 fg2 hm2 a kd2 lf2 wi2 wt2 = some (dy, dn, 0, 1, nI 41, th, cpf fg2 fg 8, cpf hm2 hm 8, a, cpf kd2 kd 8, cpf lf2 lf 4, cpf wi2 wi 4, cpf wt2 wt 6) := by
  unfold F_M_again
  rw [AK_kept hE]
  rfl
theorem cpf_id (a : Nat → Int32) (i : Nat) : cpf a a i = a := cpf_self (fun _ _ => rfl)
-- what is left after a work
theorem arc (a b c : Int32) : a + b + c = a + c + b := by rw [Int32.add_assoc, Int32.add_comm b c, ← Int32.add_assoc]
theorem aLf_upd {lf : Nat → Int32} {f : Nat} (hf : f < 4) : aLf (upd lf f (lf f - 1)) + 1 = aLf lf := by
  have e1 : ∀ a : Int32, a - 1 + 1 = a := fun a => Int32.sub_add_cancel a 1
  rcases (show f = 0 ∨ f = 1 ∨ f = 2 ∨ f = 3 by omega) with rfl | rfl | rfl | rfl
  · show lf 0 - 1 + lf 1 + lf 2 + lf 3 + 1 = lf 0 + lf 1 + lf 2 + lf 3
    rw [arc _ (lf 3) 1, arc _ (lf 2) 1, arc _ (lf 1) 1, e1]
  · show lf 0 + (lf 1 - 1) + lf 2 + lf 3 + 1 = lf 0 + lf 1 + lf 2 + lf 3
    rw [arc _ (lf 3) 1, arc _ (lf 2) 1, Int32.add_assoc (lf 0), e1]
  · show lf 0 + lf 1 + (lf 2 - 1) + lf 3 + 1 = lf 0 + lf 1 + lf 2 + lf 3
    rw [arc _ (lf 3) 1, Int32.add_assoc (lf 0 + lf 1), e1]
  · show lf 0 + lf 1 + lf 2 + (lf 3 - 1) + 1 = lf 0 + lf 1 + lf 2 + lf 3
    rw [Int32.add_assoc (lf 0 + lf 1 + lf 2), e1]
