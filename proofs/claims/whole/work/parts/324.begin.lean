-- what the harvest begins with
def cpf (a b : Nat → Int32) (i : Nat) : Nat → Int32 := fun j => if j < i then b j else a j
theorem cpf_0 (a b : Nat → Int32) : cpf a b 0 = a := funext fun j => if_neg (Nat.not_lt_zero j)
theorem cpf_s (a b : Nat → Int32) (i : Nat) : upd (cpf a b i) i (b i) = cpf a b (i + 1) := by
  funext j
  unfold upd cpf
  by_cases c : j = i
  · subst c
    rw [if_pos rfl, if_pos (by omega)]
  · rw [if_neg c]
    by_cases d : j < i
    · rw [if_pos d, if_pos (by omega)]
    · rw [if_neg d, if_neg (by omega)]
theorem cpf_at {a b : Nat → Int32} {i j : Nat} (h : j < i) : cpf a b i j = b j := if_pos h
theorem C_copyF (a wa lf wi : Nat → Int32) : F_Fld_copyFrom a wa lf wi = some (cpf a lf 4, cpf wa wi 4) := by
  have e : wh (fun (s : (Int32) × (Nat → Int32) × (Nat → Int32)) => F_Fld_copyFrom_L2 lf wi s.1 s.2.1 s.2.2) 400 ((0 : Int32), cpf a lf 0, cpf wa wi 0) = some (cpf a lf 4, cpf wa wi 4) := by
    refine wh_for (fun i => (nI i, cpf a lf i, cpf wa wi i)) 4 (cpf a lf 4, cpf wa wi 4) (fun i hi => ?_) ?_ 400 (by omega)
    · show F_Fld_copyFrom_L2 lf wi (nI i) (cpf a lf i) (cpf wa wi i) = some (Sum.inl (nI (i + 1), cpf a lf (i + 1), cpf wa wi (i + 1)))
      unfold F_Fld_copyFrom_L2
      rw [if_neg (nleC 4 4 hi (by omega) rfl), ck_nI _ hi (by omega), ck_nI _ hi (by omega), ck_nI _ hi (by omega), ck_nI _ hi (by omega), nI_clamp (show i < 2 ^ 31 by omega), nI_1, cpf_s, cpf_s]
    · rfl
  rw [cpf_0, cpf_0] at e
  unfold F_Fld_copyFrom
  rw [e]
  rfl
def wthr (go wt hm : Nat → Int32) (m d : Nat) : Int32 := if d < m then LK go wt (hm d) else -9
theorem wthr_y {go wt hm : Nat → Int32} {m d : Nat} (h : d < m) : wthr go wt hm m d = LK go wt (hm d) := if_pos h
theorem wthr_or (go wt hm : Nat → Int32) (m d : Nat) : wthr go wt hm m d = -9 ∨ ∃ w, w < 6 ∧ wthr go wt hm m d = nI w := by
  unfold wthr
  by_cases c : d < m
  · rw [if_pos c]
    exact LK_or go wt (hm d)
  · rw [if_neg c]
    exact Or.inl rfl
theorem C_begin {m : Nat} (hm8 : m ≤ 8) (l w we lf wi go hm wt : Nat → Int32) : F_Har_begin l w we (nI m) lf wi go hm wt = some (nI m, cpf l lf 4, cpf w wi 4, cpf we (wthr go wt hm m) 8) := by
  have e : wh (fun (s : (Int32) × (Nat → Int32)) => F_Har_begin_L30 (nI m) go hm wt s.1 s.2) 400 ((0 : Int32), cpf we (wthr go wt hm m) 0) = some (cpf we (wthr go wt hm m) 8) := by
    refine wh_for (fun i => (nI i, cpf we (wthr go wt hm m) i)) 8 (cpf we (wthr go wt hm m) 8) (fun i hi => ?_) ?_ 400 (by omega)
    · show F_Har_begin_L30 (nI m) go hm wt (nI i) (cpf we (wthr go wt hm m) i) = some (Sum.inl (nI (i + 1), cpf we (wthr go wt hm m) (i + 1)))
      unfold F_Har_begin_L30
      rw [if_neg (nleC 8 8 hi (by omega) rfl), nI_1, ck_nI _ hi (by omega), nI_clamp (show i < 2 ^ 31 by omega), ← cpf_s]
      by_cases c : i < m
      · rw [hasD_y c hm8, Option.bind_some, if_neg (by decide), C_ham hm8 c, Option.bind_some, C_by, Option.bind_some, ck_nI _ hi (by omega), wthr_y c]
      · rw [hasD_n2 (by omega) hi, Option.bind_some, if_pos rfl, show wthr go wt hm m i = -9 from if_neg c]
    · rfl
  rw [cpf_0] at e
  have key : ∀ m : Fin 9, (if (0 : Int32) < (if (8 : Int32) < nI m.val then (8 : Int32) else nI m.val) then (if (8 : Int32) < nI m.val then (8 : Int32) else nI m.val) else (0 : Int32)) = nI m.val := by decide +kernel
  unfold F_Har_begin
  rw [C_copyF, Option.bind_some, e, Option.bind_some, key ⟨m, by omega⟩]
-- a weather or none, told by a bit
def hq (w x : Int32) : Bool := decide (F_H_holds x w = some 1)
theorem holds_hq (x w : Int32) : F_H_holds x w = some (if hq w x = true then 1 else 0) := by
  unfold hq F_H_holds
  by_cases a : w < 0
  · rw [if_pos a]; rfl
  · rw [if_neg a]
    by_cases b : (31 : Int32) ≤ w
    · rw [if_pos b]; rfl
    · rw [if_neg b]
      by_cases c : (((x : Int32) >>> ((w : Int32) &&& 31)) &&& 1) = 1
      · rw [if_pos c]; rfl
      · rw [if_neg c]; rfl
theorem hq_9 (x : Int32) : hq (-9) x = false := rfl
theorem hq_n {k : Nat} (hk : k < 31) (x : Int32) : hq (nI k) x = bt x k := by
  unfold hq
  rw [holds_bt x hk]
  cases bt x k <;> rfl
theorem hasBit_hq {k : Nat} (hk : k < 31) (x : Int32) : F_M_hasBit x (nI k) = some (if hq (nI k) x = true then 1 else 0) := by
  rw [hasBit_bt, hq_n hk]
-- the least cut
def wsB (wi : Nat → Int32) (w : Int32) : Nat → Int32
  | 0 => 0
  | f + 1 => if hq w (wi f) = true then wsB wi w f ||| nI (2 ^ f) else wsB wi w f
theorem shl_4 {f : Nat} (hf : f < 8) : (1 : Int32) <<< ((nI f) &&& 31) = nI (2 ^ f) := shl_n (by omega)
theorem C_wishers (wi : Nat → Int32) (w : Int32) : F_Fld_wishersOf wi w = some (wsB wi w 4) := by
  unfold F_Fld_wishersOf
  refine (wh_forB (fun i => (wsB wi w i, nI i)) 4 (wsB wi w 4) 400 (by omega) (fun i hi => ?_) ?_).trans rfl
  · show F_Fld_wishersOf_L4 wi w (wsB wi w i) (nI i) = some (Sum.inl (wsB wi w (i + 1), nI (i + 1)))
    unfold F_Fld_wishersOf_L4
    rw [if_neg (nleC 4 4 hi (by omega) rfl), ck_nI _ hi (by omega), nI_clamp (show i < 2 ^ 31 by omega), holds_hq, Option.bind_some, nI_1, shl_4 (by omega), wsB]
    cases hq w (wi i)
    · rw [if_pos (by decide)]; rfl
    · rw [if_neg (by decide)]; rfl
  · rfl
def ogs (wi : Nat → Int32) (w : Int32) (c : Nat) : Nat → Bool
  | 0 => false
  | f + 1 => ogs wi w c f || (hq w (wi f) && !bt (nI c) f)
theorem wsB_and {c : Nat} (hc : c < 16) (wi : Nat → Int32) (w : Int32) : (wsB wi w 4 &&& (nI c ^^^ (-1))) = 0 ↔ ogs wi w c 4 = false := by
  have key : ∀ (a b d e : Bool) (c : Fin 16), (((if e then (if d then (if b then (if a then (0 : Int32) ||| nI (2 ^ 0) else 0) ||| nI (2 ^ 1) else (if a then (0 : Int32) ||| nI (2 ^ 0) else 0)) ||| nI (2 ^ 2) else (if b then (if a then (0 : Int32) ||| nI (2 ^ 0) else 0) ||| nI (2 ^ 1) else (if a then (0 : Int32) ||| nI (2 ^ 0) else 0))) ||| nI (2 ^ 3) else (if d then (if b then (if a then (0 : Int32) ||| nI (2 ^ 0) else 0) ||| nI (2 ^ 1) else (if a then (0 : Int32) ||| nI (2 ^ 0) else 0)) ||| nI (2 ^ 2) else (if b then (if a then (0 : Int32) ||| nI (2 ^ 0) else 0) ||| nI (2 ^ 1) else (if a then (0 : Int32) ||| nI (2 ^ 0) else 0)))) &&& (nI c.val ^^^ (-1))) = 0 ↔ ((((false || (a && !bt (nI c.val) 0)) || (b && !bt (nI c.val) 1)) || (d && !bt (nI c.val) 2)) || (e && !bt (nI c.val) 3)) = false) := by decide +kernel
  exact key (hq w (wi 0)) (hq w (wi 1)) (hq w (wi 2)) (hq w (wi 3)) ⟨c, hc⟩
theorem M_out {w : Int32} (hw : w = -9 ∨ ∃ k, k < 6 ∧ w = nI k) (wi : Nat → Int32) (c : Nat) : wh (fun (s : (Int32) × (Int32)) => F_M_plan_L81 wi (nI c) w s.1 s.2) 400 ((0 : Int32), (0 : Int32)) = some (if ogs wi w c 4 = true then 1 else 0) := by
  refine wh_for (fun i => ((if ogs wi w c i = true then (1 : Int32) else 0), nI i)) 4 (if ogs wi w c 4 = true then (1 : Int32) else 0) (fun i hi => ?_) ?_ 400 (by omega)
  · show F_M_plan_L81 wi (nI c) w (if ogs wi w c i = true then (1 : Int32) else 0) (nI i) = some (Sum.inl ((if ogs wi w c (i + 1) = true then (1 : Int32) else 0), nI (i + 1)))
    unfold F_M_plan_L81
    rw [if_neg (nleC 4 4 hi (by omega) rfl), nI_1, ogs]
    cases e : ogs wi w c i with
    | true => rfl
    | false =>
      rw [if_neg (show ¬ false = true by decide), if_pos rfl]
      rcases hw with rfl | ⟨k, hk, rfl⟩
      · rw [if_pos (by decide), hq_9]
        rfl
      · rw [if_neg (nI_ge0 (by omega)), hasBit_bt, Option.bind_some, ck_nI _ hi (by omega), nI_clamp (show i < 2 ^ 31 by omega), hasBit_hq (show k < 31 by omega), Option.bind_some]
        cases bt (nI c) i
        · cases hq (nI k) (wi i) <;> rfl
        · cases hq (nI k) (wi i) <;> rfl
  · rfl
