-- carryAll, for each of the rows
theorem cpf_self {a b : Nat → Int32} {i : Nat} (h : ∀ j, j < i → b j = a j) : cpf a b i = a := by
  funext j
  unfold cpf
  by_cases c : j < i
  · rw [if_pos c, h j c]
  · rw [if_neg c]
theorem cpf_back {a b c : Nat → Int32} {i : Nat} (h : ∀ j, j < i → b j = c j) (h2 : ∀ j, i ≤ j → a j = c j) : cpf a b i = c := by
  funext j
  unfold cpf
  by_cases d : j < i
  · rw [if_pos d, h j d]
  · rw [if_neg d, h2 j (by omega)]
def evS (th dy dn : Int32) (wt kd fg hm wi lf : Nat → Int32) (p : Nat) : Int32 :=
  if p = 0 then th else if p = 1 then dy else if p = 2 then dn else if p < 9 then wt (p - 3) else if p < 33 then (if (p - 9) % 3 = 0 then kd ((p - 9) / 3) else if (p - 9) % 3 = 1 then fg ((p - 9) / 3) else hm ((p - 9) / 3)) else if (p - 33) % 2 = 0 then wi ((p - 33) / 2) else lf ((p - 33) / 2)
theorem evS_wt {th dy dn : Int32} {wt kd fg hm wi lf : Nat → Int32} {j : Nat} (h : j < 6) : evS th dy dn wt kd fg hm wi lf (3 + j) = wt j := by
  unfold evS
  rw [if_neg (by omega), if_neg (by omega), if_neg (by omega), if_pos (by omega), show 3 + j - 3 = j by omega]
theorem evS_kd {th dy dn : Int32} {wt kd fg hm wi lf : Nat → Int32} {j : Nat} (h : j < 8) : evS th dy dn wt kd fg hm wi lf (9 + 3 * j) = kd j := by
  unfold evS
  rw [if_neg (by omega), if_neg (by omega), if_neg (by omega), if_neg (by omega), if_pos (by omega), if_pos (by omega), show (9 + 3 * j - 9) / 3 = j by omega]
theorem evS_fg {th dy dn : Int32} {wt kd fg hm wi lf : Nat → Int32} {j : Nat} (h : j < 8) : evS th dy dn wt kd fg hm wi lf (9 + 3 * j + 1) = fg j := by
  unfold evS
  rw [if_neg (by omega), if_neg (by omega), if_neg (by omega), if_neg (by omega), if_pos (by omega), if_neg (by omega), if_pos (by omega), show (9 + 3 * j + 1 - 9) / 3 = j by omega]
theorem evS_hm {th dy dn : Int32} {wt kd fg hm wi lf : Nat → Int32} {j : Nat} (h : j < 8) : evS th dy dn wt kd fg hm wi lf (9 + 3 * j + 2) = hm j := by
  unfold evS
  rw [if_neg (by omega), if_neg (by omega), if_neg (by omega), if_neg (by omega), if_pos (by omega), if_neg (by omega), if_neg (by omega), show (9 + 3 * j + 2 - 9) / 3 = j by omega]
theorem evS_wi {th dy dn : Int32} {wt kd fg hm wi lf : Nat → Int32} {j : Nat} (h : j < 4) : evS th dy dn wt kd fg hm wi lf (33 + 2 * j) = wi j := by
  unfold evS
  rw [if_neg (by omega), if_neg (by omega), if_neg (by omega), if_neg (by omega), if_neg (by omega), if_pos (by omega), show (33 + 2 * j - 33) / 2 = j by omega]
theorem evS_lf {th dy dn : Int32} {wt kd fg hm wi lf : Nat → Int32} {j : Nat} (h : j < 4) : evS th dy dn wt kd fg hm wi lf (33 + 2 * j + 1) = lf j := by
  unfold evS
  rw [if_neg (by omega), if_neg (by omega), if_neg (by omega), if_neg (by omega), if_neg (by omega), if_neg (by omega), show (33 + 2 * j + 1 - 33) / 2 = j by omega]
theorem evS_Enc (to : Nat → Int32) (th dy dn : Int32) (wt kd fg hm wi lf : Nat → Int32) : Enc (cpf to (evS th dy dn wt kd fg hm wi lf) 41) 0 th dy dn wt kd fg hm wi lf := by
  refine ⟨rfl, rfl, rfl, fun j hj => ?_, fun j hj => ⟨?_, ?_, ?_⟩, fun j hj => ⟨?_, ?_⟩⟩
  · rw [show 0 + 3 + j = 3 + j by omega, cpf_at (by omega), evS_wt hj]
  · rw [show 0 + 9 + 3 * j = 9 + 3 * j by omega, cpf_at (by omega), evS_kd hj]
  · rw [show 0 + 10 + 3 * j = 9 + 3 * j + 1 by omega, cpf_at (by omega), evS_fg hj]
  · rw [show 0 + 11 + 3 * j = 9 + 3 * j + 2 by omega, cpf_at (by omega), evS_hm hj]
  · rw [show 0 + 33 + 2 * j = 33 + 2 * j by omega, cpf_at (by omega), evS_wi hj]
  · rw [show 0 + 34 + 2 * j = 33 + 2 * j + 1 by omega, cpf_at (by omega), evS_lf hj]
theorem cpf_cong {a b c : Nat → Int32} {i : Nat} (h : ∀ j, j < i → b j = c j) : cpf a b i = cpf a c i := by
  funext j
  unfold cpf
  by_cases d : j < i
  · rw [if_pos d, if_pos d, h j d]
  · rw [if_neg d, if_neg d]
theorem K1_kept (A : Nat → Int32) {p : Nat} (hp : p < 41) (v : Int32) : F_M_carry_kept 1 (nI p) A v = some (v, nI (p + 1), upd A p v) := by
  unfold F_M_carry_kept F_M_carry_kept_J17_2
  rw [if_neg (by decide), ck_nI _ hp (by omega), nI_clamp (show p < 2 ^ 31 by omega), show nI p + 1 - 1 = nI p by rw [Int32.add_sub_cancel], ck_nI _ hp (by omega), nI_clamp (show p < 2 ^ 31 by omega), nI_1]
  show some (upd A p v p, nI (p + 1), upd A p v) = _
  rw [show upd A p v p = v from if_pos rfl]
theorem K0_kept (A : Nat → Int32) {p : Nat} (hp : p < 41) (v : Int32) : F_M_carry_kept 0 (nI p) A v = some (A p, nI (p + 1), A) := by
  unfold F_M_carry_kept F_M_carry_kept_J17_2
  rw [if_pos rfl, show nI p + 1 - 1 = nI p by rw [Int32.add_sub_cancel], ck_nI _ hp (by omega), nI_clamp (show p < 2 ^ 31 by omega), nI_1]
theorem KA_kept {x2 : Int32} {A : Nat → Nat → Int32} {R ev : Nat → Int32} {th dy dn : Int32} {wt kd fg hm wi lf : Nat → Int32} (hx : x2 = 0 ∨ x2 = 1) (H : ∀ p, p < 41 → F_M_carry_kept x2 (nI p) (A p) (ev p) = some (R p, nI (p + 1), A (p + 1))) (h0 : ev 0 = th) (h1 : ev 1 = dy) (h2 : ev 2 = dn) (h3 : ∀ j, j < 6 → ev (3 + j) = wt j) (h4 : ∀ j, j < 8 → ev (9 + 3 * j) = kd j) (h5 : ∀ j, j < 8 → ev (9 + 3 * j + 1) = fg j) (h6 : ∀ j, j < 8 → ev (9 + 3 * j + 2) = hm j) (h7 : ∀ j, j < 4 → ev (33 + 2 * j) = wi j) (h8 : ∀ j, j < 4 → ev (33 + 2 * j + 1) = lf j) : F_M_carryAll_kept dy dn th fg hm (A 0) (kd) (lf) (wi) (wt) x2 = some (R 1, R 2, x2, nI 41, R 0, cpf fg (fun j => R (9 + 3 * j + 1)) 8, cpf hm (fun j => R (9 + 3 * j + 2)) 8, A 41, cpf kd (fun j => R (9 + 3 * j)) 8, cpf lf (fun j => R (33 + 2 * j + 1)) 4, cpf wi (fun j => R (33 + 2 * j)) 4, cpf wt (fun j => R (3 + j)) 6) := by
  have c0 : F_M_carry_kept x2 0 (A 0) th = some (R 0, nI 1, A 1) := by rw [← h0]; exact H 0 (by omega)
  have c1 : F_M_carry_kept x2 (nI 1) (A 1) dy = some (R 1, nI 2, A 2) := by rw [← h1]; exact H 1 (by omega)
  have c2 : F_M_carry_kept x2 (nI 2) (A 2) dn = some (R 2, nI 3, A 3) := by rw [← h2]; exact H 2 (by omega)
  have eW : wh (fun (s : (Int32) × (Int32) × (Nat → Int32) × (Nat → Int32)) => F_M_carryAll_kept_L53 x2 s.1 s.2.1 s.2.2.1 s.2.2.2) 400 ((0 : Int32), nI 3, A 3, cpf wt (fun j => R (3 + j)) 0) = some (nI 9, A 9, cpf wt (fun j => R (3 + j)) 6) := by
    refine wh_for (fun i => (nI i, nI (3 + i), A (3 + i), cpf wt (fun j => R (3 + j)) i)) 6 (nI 9, A 9, cpf wt (fun j => R (3 + j)) 6) (fun i hi => ?_) ?_ 400 (by omega)
    · show F_M_carryAll_kept_L53 x2 (nI i) (nI (3 + i)) (A (3 + i)) (cpf wt (fun j => R (3 + j)) i) = some (Sum.inl (nI (i + 1), nI (3 + (i + 1)), A (3 + (i + 1)), cpf wt (fun j => R (3 + j)) (i + 1)))
      unfold F_M_carryAll_kept_L53
      have e : F_M_carry_kept x2 (nI (3 + i)) (A (3 + i)) (wt i) = some (R (3 + i), nI (3 + i + 1), A (3 + i + 1)) := by rw [← h3 i hi]; exact H (3 + i) (by omega)
      rw [if_neg (nleC 6 6 hi (by omega) rfl), ck_nI _ hi (by omega), nI_clamp (show i < 2 ^ 31 by omega), show cpf wt (fun j => R (3 + j)) i i = wt i from if_neg (Nat.lt_irrefl i), e, Option.bind_some, ck_nI _ hi (by omega), nI_1, ← cpf_s wt (fun j => R (3 + j)) i]
      rfl
    · rfl
  rw [cpf_0] at eW
  have eT : wh (fun (s : (Int32) × (Int32) × (Nat → Int32) × (Nat → Int32) × (Nat → Int32) × (Nat → Int32)) => F_M_carryAll_kept_L83 x2 s.1 s.2.1 s.2.2.1 s.2.2.2.1 s.2.2.2.2.1 s.2.2.2.2.2) 400 ((0 : Int32), nI 9, cpf fg (fun j => R (9 + 3 * j + 1)) 0, cpf hm (fun j => R (9 + 3 * j + 2)) 0, A 9, cpf kd (fun j => R (9 + 3 * j)) 0) = some (nI 33, cpf fg (fun j => R (9 + 3 * j + 1)) 8, cpf hm (fun j => R (9 + 3 * j + 2)) 8, A 33, cpf kd (fun j => R (9 + 3 * j)) 8) := by
    refine wh_for (fun i => (nI i, nI (9 + 3 * i), cpf fg (fun j => R (9 + 3 * j + 1)) i, cpf hm (fun j => R (9 + 3 * j + 2)) i, A (9 + 3 * i), cpf kd (fun j => R (9 + 3 * j)) i)) 8 (nI 33, cpf fg (fun j => R (9 + 3 * j + 1)) 8, cpf hm (fun j => R (9 + 3 * j + 2)) 8, A 33, cpf kd (fun j => R (9 + 3 * j)) 8) (fun i hi => ?_) ?_ 400 (by omega)
    · show F_M_carryAll_kept_L83 x2 (nI i) (nI (9 + 3 * i)) (cpf fg (fun j => R (9 + 3 * j + 1)) i) (cpf hm (fun j => R (9 + 3 * j + 2)) i) (A (9 + 3 * i)) (cpf kd (fun j => R (9 + 3 * j)) i) = some (Sum.inl (nI (i + 1), nI (9 + 3 * (i + 1)), cpf fg (fun j => R (9 + 3 * j + 1)) (i + 1), cpf hm (fun j => R (9 + 3 * j + 2)) (i + 1), A (9 + 3 * (i + 1)), cpf kd (fun j => R (9 + 3 * j)) (i + 1)))
      unfold F_M_carryAll_kept_L83
      have e : F_M_carry_kept x2 (nI (9 + 3 * i)) (A (9 + 3 * i)) (kd i) = some (R (9 + 3 * i), nI (9 + 3 * i + 1), A (9 + 3 * i + 1)) := by rw [← h4 i hi]; exact H (9 + 3 * i) (by omega)
      have e2 : F_M_carry_kept x2 (nI (9 + 3 * i + 1)) (A (9 + 3 * i + 1)) (fg i) = some (R (9 + 3 * i + 1), nI (9 + 3 * i + 2), A (9 + 3 * i + 2)) := by rw [← h5 i hi]; exact H (9 + 3 * i + 1) (by omega)
      have e3 : F_M_carry_kept x2 (nI (9 + 3 * i + 2)) (A (9 + 3 * i + 2)) (hm i) = some (R (9 + 3 * i + 2), nI (9 + 3 * i + 3), A (9 + 3 * i + 3)) := by rw [← h6 i hi]; exact H (9 + 3 * i + 2) (by omega)
      rw [if_neg (nleC 8 8 hi (by omega) rfl), ck_nI _ hi (by omega), nI_clamp (show i < 2 ^ 31 by omega), show cpf kd (fun j => R (9 + 3 * j)) i i = kd i from if_neg (Nat.lt_irrefl i), e, Option.bind_some, ck_nI _ hi (by omega), ck_nI _ hi (by omega), show cpf fg (fun j => R (9 + 3 * j + 1)) i i = fg i from if_neg (Nat.lt_irrefl i), e2, Option.bind_some, ck_nI _ hi (by omega), ck_nI _ hi (by omega), show cpf hm (fun j => R (9 + 3 * j + 2)) i i = hm i from if_neg (Nat.lt_irrefl i), e3, Option.bind_some, ck_nI _ hi (by omega), nI_1, ← cpf_s fg (fun j => R (9 + 3 * j + 1)) i, ← cpf_s hm (fun j => R (9 + 3 * j + 2)) i, ← cpf_s kd (fun j => R (9 + 3 * j)) i]
      rfl
    · rfl
  rw [cpf_0, cpf_0, cpf_0] at eT
  have eF : wh (fun (s : (Int32) × (Int32) × (Nat → Int32) × (Nat → Int32) × (Nat → Int32)) => F_M_carryAll_kept_L145 x2 s.1 s.2.1 s.2.2.1 s.2.2.2.1 s.2.2.2.2) 400 ((0 : Int32), nI 33, A 33, cpf lf (fun j => R (33 + 2 * j + 1)) 0, cpf wi (fun j => R (33 + 2 * j)) 0) = some (nI 41, A 41, cpf lf (fun j => R (33 + 2 * j + 1)) 4, cpf wi (fun j => R (33 + 2 * j)) 4) := by
    refine wh_for (fun i => (nI i, nI (33 + 2 * i), A (33 + 2 * i), cpf lf (fun j => R (33 + 2 * j + 1)) i, cpf wi (fun j => R (33 + 2 * j)) i)) 4 (nI 41, A 41, cpf lf (fun j => R (33 + 2 * j + 1)) 4, cpf wi (fun j => R (33 + 2 * j)) 4) (fun i hi => ?_) ?_ 400 (by omega)
    · show F_M_carryAll_kept_L145 x2 (nI i) (nI (33 + 2 * i)) (A (33 + 2 * i)) (cpf lf (fun j => R (33 + 2 * j + 1)) i) (cpf wi (fun j => R (33 + 2 * j)) i) = some (Sum.inl (nI (i + 1), nI (33 + 2 * (i + 1)), A (33 + 2 * (i + 1)), cpf lf (fun j => R (33 + 2 * j + 1)) (i + 1), cpf wi (fun j => R (33 + 2 * j)) (i + 1)))
      unfold F_M_carryAll_kept_L145
      have e : F_M_carry_kept x2 (nI (33 + 2 * i)) (A (33 + 2 * i)) (wi i) = some (R (33 + 2 * i), nI (33 + 2 * i + 1), A (33 + 2 * i + 1)) := by rw [← h7 i hi]; exact H (33 + 2 * i) (by omega)
      have e2 : F_M_carry_kept x2 (nI (33 + 2 * i + 1)) (A (33 + 2 * i + 1)) (lf i) = some (R (33 + 2 * i + 1), nI (33 + 2 * i + 2), A (33 + 2 * i + 2)) := by rw [← h8 i hi]; exact H (33 + 2 * i + 1) (by omega)
      rw [if_neg (nleC 4 4 hi (by omega) rfl), ck_nI _ hi (by omega), nI_clamp (show i < 2 ^ 31 by omega), show cpf wi (fun j => R (33 + 2 * j)) i i = wi i from if_neg (Nat.lt_irrefl i), e, Option.bind_some, ck_nI _ hi (by omega), ck_nI _ hi (by omega), show cpf lf (fun j => R (33 + 2 * j + 1)) i i = lf i from if_neg (Nat.lt_irrefl i), e2, Option.bind_some, ck_nI _ hi (by omega), nI_1, ← cpf_s wi (fun j => R (33 + 2 * j)) i, ← cpf_s lf (fun j => R (33 + 2 * j + 1)) i]
      rfl
    · rfl
  rw [cpf_0, cpf_0] at eF
  unfold F_M_carryAll_kept ckz
  rw [if_pos hx, c0, Option.bind_some, c1, Option.bind_some, c2, Option.bind_some, eW, Option.bind_some, eT, Option.bind_some, eF, Option.bind_some]
theorem TK_kept (to : Nat → Int32) (th dy dn : Int32) (wt kd fg hm wi lf : Nat → Int32) : F_M_carryAll_kept dy dn th fg hm (to) (kd) (lf) (wi) (wt) 1 = some (dy, dn, 1, nI 41, th, fg, hm, cpf to (evS th dy dn wt kd fg hm wi lf) 41, kd, lf, wi, wt) := by
  have h := KA_kept (x2 := 1) (A := fun p => cpf to (evS th dy dn wt kd fg hm wi lf) p) (R := evS th dy dn wt kd fg hm wi lf) (ev := evS th dy dn wt kd fg hm wi lf) (th := th) (dy := dy) (dn := dn) (wt := wt) (kd := kd) (fg := fg) (hm := hm) (wi := wi) (lf := lf) (Or.inr rfl) (fun p hp => by rw [K1_kept _ hp, cpf_s]) rfl rfl rfl (fun j hj => evS_wt hj) (fun j hj => evS_kd hj) (fun j hj => evS_fg hj) (fun j hj => evS_hm hj) (fun j hj => evS_wi hj) (fun j hj => evS_lf hj)
  rw [cpf_0] at h
  rw [h, cpf_self (a := fg) (fun j hj => evS_fg hj), cpf_self (a := hm) (fun j hj => evS_hm hj), cpf_self (a := kd) (fun j hj => evS_kd hj), cpf_self (a := lf) (fun j hj => evS_lf hj), cpf_self (a := wi) (fun j hj => evS_wi hj), cpf_self (a := wt) (fun j hj => evS_wt hj)]
  rfl
theorem AK_kept {a : Nat → Int32} {th dy dn : Int32} {wt kd fg hm wi lf : Nat → Int32} (hE : Enc a 0 th dy dn wt kd fg hm wi lf) {th2 dy2 dn2 : Int32} {wt2 kd2 fg2 hm2 wi2 lf2 : Nat → Int32} : F_M_carryAll_kept dy2 dn2 th2 fg2 hm2 (a) (kd2) (lf2) (wi2) (wt2) 0 = some (dy, dn, 0, nI 41, th, cpf fg2 fg 8, cpf hm2 hm 8, a, cpf kd2 kd 8, cpf lf2 lf 4, cpf wi2 wi 4, cpf wt2 wt 6) := by
  obtain ⟨b0, b1, b2, b3, b4, b5⟩ := hE
  have h := KA_kept (x2 := 0) (A := fun p => a) (R := a) (ev := evS th2 dy2 dn2 wt2 kd2 fg2 hm2 wi2 lf2) (th := th2) (dy := dy2) (dn := dn2) (wt := wt2) (kd := kd2) (fg := fg2) (hm := hm2) (wi := wi2) (lf := lf2) (Or.inl rfl) (fun p hp => K0_kept _ hp _) rfl rfl rfl (fun j hj => evS_wt hj) (fun j hj => evS_kd hj) (fun j hj => evS_fg hj) (fun j hj => evS_hm hj) (fun j hj => evS_wi hj) (fun j hj => evS_lf hj)
  have b0' : a 0 = th := b0
  have b1' : a 1 = dy := b1
  have b2' : a 2 = dn := b2
  rw [h, b0', b1', b2', cpf_cong (a := fg2) (b := fun j => a (9 + 3 * j + 1)) (c := fg) (fun j hj => by have := (b4 j hj).2.1; rw [← this]; show a (9 + 3 * j + 1) = _; rw [show 0 + 10 + 3 * j = 9 + 3 * j + 1 by omega]), cpf_cong (a := hm2) (b := fun j => a (9 + 3 * j + 2)) (c := hm) (fun j hj => by have := (b4 j hj).2.2; rw [← this]; show a (9 + 3 * j + 2) = _; rw [show 0 + 11 + 3 * j = 9 + 3 * j + 2 by omega]), cpf_cong (a := kd2) (b := fun j => a (9 + 3 * j)) (c := kd) (fun j hj => by have := (b4 j hj).1; rw [← this]), cpf_cong (a := lf2) (b := fun j => a (33 + 2 * j + 1)) (c := lf) (fun j hj => by have := (b5 j hj).2; rw [← this]; show a (33 + 2 * j + 1) = _; rw [show 0 + 34 + 2 * j = 33 + 2 * j + 1 by omega]), cpf_cong (a := wi2) (b := fun j => a (33 + 2 * j)) (c := wi) (fun j hj => by have := (b5 j hj).1; rw [← this]), cpf_cong (a := wt2) (b := fun j => a (3 + j)) (c := wt) (fun j hj => by have := b3 j hj; rw [← this])]
theorem K1_turnOf (A : Nat → Int32) {p : Nat} (hp : p < 41) (v : Int32) : F_M_carry_turnOf 1 (nI p) A v = some (v, nI (p + 1), upd A p v) := by
  unfold F_M_carry_turnOf F_M_carry_turnOf_J17_2
  rw [if_neg (by decide), ck_nI _ hp (by omega), nI_clamp (show p < 2 ^ 31 by omega), show nI p + 1 - 1 = nI p by rw [Int32.add_sub_cancel], ck_nI _ hp (by omega), nI_clamp (show p < 2 ^ 31 by omega), nI_1]
  show some (upd A p v p, nI (p + 1), upd A p v) = _
  rw [show upd A p v p = v from if_pos rfl]
theorem K0_turnOf (A : Nat → Int32) {p : Nat} (hp : p < 41) (v : Int32) : F_M_carry_turnOf 0 (nI p) A v = some (A p, nI (p + 1), A) := by
  unfold F_M_carry_turnOf F_M_carry_turnOf_J17_2
  rw [if_pos rfl, show nI p + 1 - 1 = nI p by rw [Int32.add_sub_cancel], ck_nI _ hp (by omega), nI_clamp (show p < 2 ^ 31 by omega), nI_1]
theorem KA_turnOf {x2 : Int32} {A : Nat → Nat → Int32} {R ev : Nat → Int32} {th dy dn : Int32} {wt kd fg hm wi lf : Nat → Int32} (hx : x2 = 0 ∨ x2 = 1) (H : ∀ p, p < 41 → F_M_carry_turnOf x2 (nI p) (A p) (ev p) = some (R p, nI (p + 1), A (p + 1))) (h0 : ev 0 = th) (h1 : ev 1 = dy) (h2 : ev 2 = dn) (h3 : ∀ j, j < 6 → ev (3 + j) = wt j) (h4 : ∀ j, j < 8 → ev (9 + 3 * j) = kd j) (h5 : ∀ j, j < 8 → ev (9 + 3 * j + 1) = fg j) (h6 : ∀ j, j < 8 → ev (9 + 3 * j + 2) = hm j) (h7 : ∀ j, j < 4 → ev (33 + 2 * j) = wi j) (h8 : ∀ j, j < 4 → ev (33 + 2 * j + 1) = lf j) : F_M_carryAll_turnOf dy dn th fg hm (kd) (lf) (A 0) (wi) (wt) x2 = some (R 1, R 2, x2, nI 41, R 0, cpf fg (fun j => R (9 + 3 * j + 1)) 8, cpf hm (fun j => R (9 + 3 * j + 2)) 8, cpf kd (fun j => R (9 + 3 * j)) 8, cpf lf (fun j => R (33 + 2 * j + 1)) 4, A 41, cpf wi (fun j => R (33 + 2 * j)) 4, cpf wt (fun j => R (3 + j)) 6) := by
  have c0 : F_M_carry_turnOf x2 0 (A 0) th = some (R 0, nI 1, A 1) := by rw [← h0]; exact H 0 (by omega)
  have c1 : F_M_carry_turnOf x2 (nI 1) (A 1) dy = some (R 1, nI 2, A 2) := by rw [← h1]; exact H 1 (by omega)
  have c2 : F_M_carry_turnOf x2 (nI 2) (A 2) dn = some (R 2, nI 3, A 3) := by rw [← h2]; exact H 2 (by omega)
  have eW : wh (fun (s : (Int32) × (Int32) × (Nat → Int32) × (Nat → Int32)) => F_M_carryAll_turnOf_L53 x2 s.1 s.2.1 s.2.2.1 s.2.2.2) 400 ((0 : Int32), nI 3, A 3, cpf wt (fun j => R (3 + j)) 0) = some (nI 9, A 9, cpf wt (fun j => R (3 + j)) 6) := by
    refine wh_for (fun i => (nI i, nI (3 + i), A (3 + i), cpf wt (fun j => R (3 + j)) i)) 6 (nI 9, A 9, cpf wt (fun j => R (3 + j)) 6) (fun i hi => ?_) ?_ 400 (by omega)
    · show F_M_carryAll_turnOf_L53 x2 (nI i) (nI (3 + i)) (A (3 + i)) (cpf wt (fun j => R (3 + j)) i) = some (Sum.inl (nI (i + 1), nI (3 + (i + 1)), A (3 + (i + 1)), cpf wt (fun j => R (3 + j)) (i + 1)))
      unfold F_M_carryAll_turnOf_L53
      have e : F_M_carry_turnOf x2 (nI (3 + i)) (A (3 + i)) (wt i) = some (R (3 + i), nI (3 + i + 1), A (3 + i + 1)) := by rw [← h3 i hi]; exact H (3 + i) (by omega)
      rw [if_neg (nleC 6 6 hi (by omega) rfl), ck_nI _ hi (by omega), nI_clamp (show i < 2 ^ 31 by omega), show cpf wt (fun j => R (3 + j)) i i = wt i from if_neg (Nat.lt_irrefl i), e, Option.bind_some, ck_nI _ hi (by omega), nI_1, ← cpf_s wt (fun j => R (3 + j)) i]
      rfl
    · rfl
  rw [cpf_0] at eW
  have eT : wh (fun (s : (Int32) × (Int32) × (Nat → Int32) × (Nat → Int32) × (Nat → Int32) × (Nat → Int32)) => F_M_carryAll_turnOf_L83 x2 s.1 s.2.1 s.2.2.1 s.2.2.2.1 s.2.2.2.2.1 s.2.2.2.2.2) 400 ((0 : Int32), nI 9, cpf fg (fun j => R (9 + 3 * j + 1)) 0, cpf hm (fun j => R (9 + 3 * j + 2)) 0, cpf kd (fun j => R (9 + 3 * j)) 0, A 9) = some (nI 33, cpf fg (fun j => R (9 + 3 * j + 1)) 8, cpf hm (fun j => R (9 + 3 * j + 2)) 8, cpf kd (fun j => R (9 + 3 * j)) 8, A 33) := by
    refine wh_for (fun i => (nI i, nI (9 + 3 * i), cpf fg (fun j => R (9 + 3 * j + 1)) i, cpf hm (fun j => R (9 + 3 * j + 2)) i, cpf kd (fun j => R (9 + 3 * j)) i, A (9 + 3 * i))) 8 (nI 33, cpf fg (fun j => R (9 + 3 * j + 1)) 8, cpf hm (fun j => R (9 + 3 * j + 2)) 8, cpf kd (fun j => R (9 + 3 * j)) 8, A 33) (fun i hi => ?_) ?_ 400 (by omega)
    · show F_M_carryAll_turnOf_L83 x2 (nI i) (nI (9 + 3 * i)) (cpf fg (fun j => R (9 + 3 * j + 1)) i) (cpf hm (fun j => R (9 + 3 * j + 2)) i) (cpf kd (fun j => R (9 + 3 * j)) i) (A (9 + 3 * i)) = some (Sum.inl (nI (i + 1), nI (9 + 3 * (i + 1)), cpf fg (fun j => R (9 + 3 * j + 1)) (i + 1), cpf hm (fun j => R (9 + 3 * j + 2)) (i + 1), cpf kd (fun j => R (9 + 3 * j)) (i + 1), A (9 + 3 * (i + 1))))
      unfold F_M_carryAll_turnOf_L83
      have e : F_M_carry_turnOf x2 (nI (9 + 3 * i)) (A (9 + 3 * i)) (kd i) = some (R (9 + 3 * i), nI (9 + 3 * i + 1), A (9 + 3 * i + 1)) := by rw [← h4 i hi]; exact H (9 + 3 * i) (by omega)
      have e2 : F_M_carry_turnOf x2 (nI (9 + 3 * i + 1)) (A (9 + 3 * i + 1)) (fg i) = some (R (9 + 3 * i + 1), nI (9 + 3 * i + 2), A (9 + 3 * i + 2)) := by rw [← h5 i hi]; exact H (9 + 3 * i + 1) (by omega)
      have e3 : F_M_carry_turnOf x2 (nI (9 + 3 * i + 2)) (A (9 + 3 * i + 2)) (hm i) = some (R (9 + 3 * i + 2), nI (9 + 3 * i + 3), A (9 + 3 * i + 3)) := by rw [← h6 i hi]; exact H (9 + 3 * i + 2) (by omega)
      rw [if_neg (nleC 8 8 hi (by omega) rfl), ck_nI _ hi (by omega), nI_clamp (show i < 2 ^ 31 by omega), show cpf kd (fun j => R (9 + 3 * j)) i i = kd i from if_neg (Nat.lt_irrefl i), e, Option.bind_some, ck_nI _ hi (by omega), ck_nI _ hi (by omega), show cpf fg (fun j => R (9 + 3 * j + 1)) i i = fg i from if_neg (Nat.lt_irrefl i), e2, Option.bind_some, ck_nI _ hi (by omega), ck_nI _ hi (by omega), show cpf hm (fun j => R (9 + 3 * j + 2)) i i = hm i from if_neg (Nat.lt_irrefl i), e3, Option.bind_some, ck_nI _ hi (by omega), nI_1, ← cpf_s fg (fun j => R (9 + 3 * j + 1)) i, ← cpf_s hm (fun j => R (9 + 3 * j + 2)) i, ← cpf_s kd (fun j => R (9 + 3 * j)) i]
      rfl
    · rfl
  rw [cpf_0, cpf_0, cpf_0] at eT
  have eF : wh (fun (s : (Int32) × (Int32) × (Nat → Int32) × (Nat → Int32) × (Nat → Int32)) => F_M_carryAll_turnOf_L145 x2 s.1 s.2.1 s.2.2.1 s.2.2.2.1 s.2.2.2.2) 400 ((0 : Int32), nI 33, cpf lf (fun j => R (33 + 2 * j + 1)) 0, A 33, cpf wi (fun j => R (33 + 2 * j)) 0) = some (nI 41, cpf lf (fun j => R (33 + 2 * j + 1)) 4, A 41, cpf wi (fun j => R (33 + 2 * j)) 4) := by
    refine wh_for (fun i => (nI i, nI (33 + 2 * i), cpf lf (fun j => R (33 + 2 * j + 1)) i, A (33 + 2 * i), cpf wi (fun j => R (33 + 2 * j)) i)) 4 (nI 41, cpf lf (fun j => R (33 + 2 * j + 1)) 4, A 41, cpf wi (fun j => R (33 + 2 * j)) 4) (fun i hi => ?_) ?_ 400 (by omega)
    · show F_M_carryAll_turnOf_L145 x2 (nI i) (nI (33 + 2 * i)) (cpf lf (fun j => R (33 + 2 * j + 1)) i) (A (33 + 2 * i)) (cpf wi (fun j => R (33 + 2 * j)) i) = some (Sum.inl (nI (i + 1), nI (33 + 2 * (i + 1)), cpf lf (fun j => R (33 + 2 * j + 1)) (i + 1), A (33 + 2 * (i + 1)), cpf wi (fun j => R (33 + 2 * j)) (i + 1)))
      unfold F_M_carryAll_turnOf_L145
      have e : F_M_carry_turnOf x2 (nI (33 + 2 * i)) (A (33 + 2 * i)) (wi i) = some (R (33 + 2 * i), nI (33 + 2 * i + 1), A (33 + 2 * i + 1)) := by rw [← h7 i hi]; exact H (33 + 2 * i) (by omega)
      have e2 : F_M_carry_turnOf x2 (nI (33 + 2 * i + 1)) (A (33 + 2 * i + 1)) (lf i) = some (R (33 + 2 * i + 1), nI (33 + 2 * i + 2), A (33 + 2 * i + 2)) := by rw [← h8 i hi]; exact H (33 + 2 * i + 1) (by omega)
      rw [if_neg (nleC 4 4 hi (by omega) rfl), ck_nI _ hi (by omega), nI_clamp (show i < 2 ^ 31 by omega), show cpf wi (fun j => R (33 + 2 * j)) i i = wi i from if_neg (Nat.lt_irrefl i), e, Option.bind_some, ck_nI _ hi (by omega), ck_nI _ hi (by omega), show cpf lf (fun j => R (33 + 2 * j + 1)) i i = lf i from if_neg (Nat.lt_irrefl i), e2, Option.bind_some, ck_nI _ hi (by omega), nI_1, ← cpf_s wi (fun j => R (33 + 2 * j)) i, ← cpf_s lf (fun j => R (33 + 2 * j + 1)) i]
      rfl
    · rfl
  rw [cpf_0, cpf_0] at eF
  unfold F_M_carryAll_turnOf ckz
  rw [if_pos hx, c0, Option.bind_some, c1, Option.bind_some, c2, Option.bind_some, eW, Option.bind_some, eT, Option.bind_some, eF, Option.bind_some]
theorem TK_turnOf (to : Nat → Int32) (th dy dn : Int32) (wt kd fg hm wi lf : Nat → Int32) : F_M_carryAll_turnOf dy dn th fg hm (kd) (lf) (to) (wi) (wt) 1 = some (dy, dn, 1, nI 41, th, fg, hm, kd, lf, cpf to (evS th dy dn wt kd fg hm wi lf) 41, wi, wt) := by
  have h := KA_turnOf (x2 := 1) (A := fun p => cpf to (evS th dy dn wt kd fg hm wi lf) p) (R := evS th dy dn wt kd fg hm wi lf) (ev := evS th dy dn wt kd fg hm wi lf) (th := th) (dy := dy) (dn := dn) (wt := wt) (kd := kd) (fg := fg) (hm := hm) (wi := wi) (lf := lf) (Or.inr rfl) (fun p hp => by rw [K1_turnOf _ hp, cpf_s]) rfl rfl rfl (fun j hj => evS_wt hj) (fun j hj => evS_kd hj) (fun j hj => evS_fg hj) (fun j hj => evS_hm hj) (fun j hj => evS_wi hj) (fun j hj => evS_lf hj)
  rw [cpf_0] at h
  rw [h, cpf_self (a := fg) (fun j hj => evS_fg hj), cpf_self (a := hm) (fun j hj => evS_hm hj), cpf_self (a := kd) (fun j hj => evS_kd hj), cpf_self (a := lf) (fun j hj => evS_lf hj), cpf_self (a := wi) (fun j hj => evS_wi hj), cpf_self (a := wt) (fun j hj => evS_wt hj)]
  rfl
theorem AK_turnOf {a : Nat → Int32} {th dy dn : Int32} {wt kd fg hm wi lf : Nat → Int32} (hE : Enc a 0 th dy dn wt kd fg hm wi lf) {th2 dy2 dn2 : Int32} {wt2 kd2 fg2 hm2 wi2 lf2 : Nat → Int32} : F_M_carryAll_turnOf dy2 dn2 th2 fg2 hm2 (kd2) (lf2) (a) (wi2) (wt2) 0 = some (dy, dn, 0, nI 41, th, cpf fg2 fg 8, cpf hm2 hm 8, cpf kd2 kd 8, cpf lf2 lf 4, a, cpf wi2 wi 4, cpf wt2 wt 6) := by
  obtain ⟨b0, b1, b2, b3, b4, b5⟩ := hE
  have h := KA_turnOf (x2 := 0) (A := fun p => a) (R := a) (ev := evS th2 dy2 dn2 wt2 kd2 fg2 hm2 wi2 lf2) (th := th2) (dy := dy2) (dn := dn2) (wt := wt2) (kd := kd2) (fg := fg2) (hm := hm2) (wi := wi2) (lf := lf2) (Or.inl rfl) (fun p hp => K0_turnOf _ hp _) rfl rfl rfl (fun j hj => evS_wt hj) (fun j hj => evS_kd hj) (fun j hj => evS_fg hj) (fun j hj => evS_hm hj) (fun j hj => evS_wi hj) (fun j hj => evS_lf hj)
  have b0' : a 0 = th := b0
  have b1' : a 1 = dy := b1
  have b2' : a 2 = dn := b2
  rw [h, b0', b1', b2', cpf_cong (a := fg2) (b := fun j => a (9 + 3 * j + 1)) (c := fg) (fun j hj => by have := (b4 j hj).2.1; rw [← this]; show a (9 + 3 * j + 1) = _; rw [show 0 + 10 + 3 * j = 9 + 3 * j + 1 by omega]), cpf_cong (a := hm2) (b := fun j => a (9 + 3 * j + 2)) (c := hm) (fun j hj => by have := (b4 j hj).2.2; rw [← this]; show a (9 + 3 * j + 2) = _; rw [show 0 + 11 + 3 * j = 9 + 3 * j + 2 by omega]), cpf_cong (a := kd2) (b := fun j => a (9 + 3 * j)) (c := kd) (fun j hj => by have := (b4 j hj).1; rw [← this]), cpf_cong (a := lf2) (b := fun j => a (33 + 2 * j + 1)) (c := lf) (fun j hj => by have := (b5 j hj).2; rw [← this]; show a (33 + 2 * j + 1) = _; rw [show 0 + 34 + 2 * j = 33 + 2 * j + 1 by omega]), cpf_cong (a := wi2) (b := fun j => a (33 + 2 * j)) (c := wi) (fun j hj => by have := (b5 j hj).1; rw [← this]), cpf_cong (a := wt2) (b := fun j => a (3 + j)) (c := wt) (fun j hj => by have := b3 j hj; rw [← this])]
theorem K1_imaged (A : Nat → Int32) {p : Nat} (hp : p < 41) (v : Int32) : F_M_carry_imaged 1 (nI p) A v = some (v, nI (p + 1), upd A p v) := by
  unfold F_M_carry_imaged F_M_carry_imaged_J17_2
  rw [if_neg (by decide), ck_nI _ hp (by omega), nI_clamp (show p < 2 ^ 31 by omega), show nI p + 1 - 1 = nI p by rw [Int32.add_sub_cancel], ck_nI _ hp (by omega), nI_clamp (show p < 2 ^ 31 by omega), nI_1]
  show some (upd A p v p, nI (p + 1), upd A p v) = _
  rw [show upd A p v p = v from if_pos rfl]
theorem K0_imaged (A : Nat → Int32) {p : Nat} (hp : p < 41) (v : Int32) : F_M_carry_imaged 0 (nI p) A v = some (A p, nI (p + 1), A) := by
  unfold F_M_carry_imaged F_M_carry_imaged_J17_2
  rw [if_pos rfl, show nI p + 1 - 1 = nI p by rw [Int32.add_sub_cancel], ck_nI _ hp (by omega), nI_clamp (show p < 2 ^ 31 by omega), nI_1]
theorem KA_imaged {x2 : Int32} {A : Nat → Nat → Int32} {R ev : Nat → Int32} {th dy dn : Int32} {wt kd fg hm wi lf : Nat → Int32} (hx : x2 = 0 ∨ x2 = 1) (H : ∀ p, p < 41 → F_M_carry_imaged x2 (nI p) (A p) (ev p) = some (R p, nI (p + 1), A (p + 1))) (h0 : ev 0 = th) (h1 : ev 1 = dy) (h2 : ev 2 = dn) (h3 : ∀ j, j < 6 → ev (3 + j) = wt j) (h4 : ∀ j, j < 8 → ev (9 + 3 * j) = kd j) (h5 : ∀ j, j < 8 → ev (9 + 3 * j + 1) = fg j) (h6 : ∀ j, j < 8 → ev (9 + 3 * j + 2) = hm j) (h7 : ∀ j, j < 4 → ev (33 + 2 * j) = wi j) (h8 : ∀ j, j < 4 → ev (33 + 2 * j + 1) = lf j) : F_M_carryAll_imaged dy dn th fg hm (A 0) (kd) (lf) (wi) (wt) x2 = some (R 1, R 2, x2, nI 41, R 0, cpf fg (fun j => R (9 + 3 * j + 1)) 8, cpf hm (fun j => R (9 + 3 * j + 2)) 8, A 41, cpf kd (fun j => R (9 + 3 * j)) 8, cpf lf (fun j => R (33 + 2 * j + 1)) 4, cpf wi (fun j => R (33 + 2 * j)) 4, cpf wt (fun j => R (3 + j)) 6) := by
  have c0 : F_M_carry_imaged x2 0 (A 0) th = some (R 0, nI 1, A 1) := by rw [← h0]; exact H 0 (by omega)
  have c1 : F_M_carry_imaged x2 (nI 1) (A 1) dy = some (R 1, nI 2, A 2) := by rw [← h1]; exact H 1 (by omega)
  have c2 : F_M_carry_imaged x2 (nI 2) (A 2) dn = some (R 2, nI 3, A 3) := by rw [← h2]; exact H 2 (by omega)
  have eW : wh (fun (s : (Int32) × (Int32) × (Nat → Int32) × (Nat → Int32)) => F_M_carryAll_imaged_L53 x2 s.1 s.2.1 s.2.2.1 s.2.2.2) 400 ((0 : Int32), nI 3, A 3, cpf wt (fun j => R (3 + j)) 0) = some (nI 9, A 9, cpf wt (fun j => R (3 + j)) 6) := by
    refine wh_for (fun i => (nI i, nI (3 + i), A (3 + i), cpf wt (fun j => R (3 + j)) i)) 6 (nI 9, A 9, cpf wt (fun j => R (3 + j)) 6) (fun i hi => ?_) ?_ 400 (by omega)
    · show F_M_carryAll_imaged_L53 x2 (nI i) (nI (3 + i)) (A (3 + i)) (cpf wt (fun j => R (3 + j)) i) = some (Sum.inl (nI (i + 1), nI (3 + (i + 1)), A (3 + (i + 1)), cpf wt (fun j => R (3 + j)) (i + 1)))
      unfold F_M_carryAll_imaged_L53
      have e : F_M_carry_imaged x2 (nI (3 + i)) (A (3 + i)) (wt i) = some (R (3 + i), nI (3 + i + 1), A (3 + i + 1)) := by rw [← h3 i hi]; exact H (3 + i) (by omega)
      rw [if_neg (nleC 6 6 hi (by omega) rfl), ck_nI _ hi (by omega), nI_clamp (show i < 2 ^ 31 by omega), show cpf wt (fun j => R (3 + j)) i i = wt i from if_neg (Nat.lt_irrefl i), e, Option.bind_some, ck_nI _ hi (by omega), nI_1, ← cpf_s wt (fun j => R (3 + j)) i]
      rfl
    · rfl
  rw [cpf_0] at eW
  have eT : wh (fun (s : (Int32) × (Int32) × (Nat → Int32) × (Nat → Int32) × (Nat → Int32) × (Nat → Int32)) => F_M_carryAll_imaged_L83 x2 s.1 s.2.1 s.2.2.1 s.2.2.2.1 s.2.2.2.2.1 s.2.2.2.2.2) 400 ((0 : Int32), nI 9, cpf fg (fun j => R (9 + 3 * j + 1)) 0, cpf hm (fun j => R (9 + 3 * j + 2)) 0, A 9, cpf kd (fun j => R (9 + 3 * j)) 0) = some (nI 33, cpf fg (fun j => R (9 + 3 * j + 1)) 8, cpf hm (fun j => R (9 + 3 * j + 2)) 8, A 33, cpf kd (fun j => R (9 + 3 * j)) 8) := by
    refine wh_for (fun i => (nI i, nI (9 + 3 * i), cpf fg (fun j => R (9 + 3 * j + 1)) i, cpf hm (fun j => R (9 + 3 * j + 2)) i, A (9 + 3 * i), cpf kd (fun j => R (9 + 3 * j)) i)) 8 (nI 33, cpf fg (fun j => R (9 + 3 * j + 1)) 8, cpf hm (fun j => R (9 + 3 * j + 2)) 8, A 33, cpf kd (fun j => R (9 + 3 * j)) 8) (fun i hi => ?_) ?_ 400 (by omega)
    · show F_M_carryAll_imaged_L83 x2 (nI i) (nI (9 + 3 * i)) (cpf fg (fun j => R (9 + 3 * j + 1)) i) (cpf hm (fun j => R (9 + 3 * j + 2)) i) (A (9 + 3 * i)) (cpf kd (fun j => R (9 + 3 * j)) i) = some (Sum.inl (nI (i + 1), nI (9 + 3 * (i + 1)), cpf fg (fun j => R (9 + 3 * j + 1)) (i + 1), cpf hm (fun j => R (9 + 3 * j + 2)) (i + 1), A (9 + 3 * (i + 1)), cpf kd (fun j => R (9 + 3 * j)) (i + 1)))
      unfold F_M_carryAll_imaged_L83
      have e : F_M_carry_imaged x2 (nI (9 + 3 * i)) (A (9 + 3 * i)) (kd i) = some (R (9 + 3 * i), nI (9 + 3 * i + 1), A (9 + 3 * i + 1)) := by rw [← h4 i hi]; exact H (9 + 3 * i) (by omega)
      have e2 : F_M_carry_imaged x2 (nI (9 + 3 * i + 1)) (A (9 + 3 * i + 1)) (fg i) = some (R (9 + 3 * i + 1), nI (9 + 3 * i + 2), A (9 + 3 * i + 2)) := by rw [← h5 i hi]; exact H (9 + 3 * i + 1) (by omega)
      have e3 : F_M_carry_imaged x2 (nI (9 + 3 * i + 2)) (A (9 + 3 * i + 2)) (hm i) = some (R (9 + 3 * i + 2), nI (9 + 3 * i + 3), A (9 + 3 * i + 3)) := by rw [← h6 i hi]; exact H (9 + 3 * i + 2) (by omega)
      rw [if_neg (nleC 8 8 hi (by omega) rfl), ck_nI _ hi (by omega), nI_clamp (show i < 2 ^ 31 by omega), show cpf kd (fun j => R (9 + 3 * j)) i i = kd i from if_neg (Nat.lt_irrefl i), e, Option.bind_some, ck_nI _ hi (by omega), ck_nI _ hi (by omega), show cpf fg (fun j => R (9 + 3 * j + 1)) i i = fg i from if_neg (Nat.lt_irrefl i), e2, Option.bind_some, ck_nI _ hi (by omega), ck_nI _ hi (by omega), show cpf hm (fun j => R (9 + 3 * j + 2)) i i = hm i from if_neg (Nat.lt_irrefl i), e3, Option.bind_some, ck_nI _ hi (by omega), nI_1, ← cpf_s fg (fun j => R (9 + 3 * j + 1)) i, ← cpf_s hm (fun j => R (9 + 3 * j + 2)) i, ← cpf_s kd (fun j => R (9 + 3 * j)) i]
      rfl
    · rfl
  rw [cpf_0, cpf_0, cpf_0] at eT
  have eF : wh (fun (s : (Int32) × (Int32) × (Nat → Int32) × (Nat → Int32) × (Nat → Int32)) => F_M_carryAll_imaged_L145 x2 s.1 s.2.1 s.2.2.1 s.2.2.2.1 s.2.2.2.2) 400 ((0 : Int32), nI 33, A 33, cpf lf (fun j => R (33 + 2 * j + 1)) 0, cpf wi (fun j => R (33 + 2 * j)) 0) = some (nI 41, A 41, cpf lf (fun j => R (33 + 2 * j + 1)) 4, cpf wi (fun j => R (33 + 2 * j)) 4) := by
    refine wh_for (fun i => (nI i, nI (33 + 2 * i), A (33 + 2 * i), cpf lf (fun j => R (33 + 2 * j + 1)) i, cpf wi (fun j => R (33 + 2 * j)) i)) 4 (nI 41, A 41, cpf lf (fun j => R (33 + 2 * j + 1)) 4, cpf wi (fun j => R (33 + 2 * j)) 4) (fun i hi => ?_) ?_ 400 (by omega)
    · show F_M_carryAll_imaged_L145 x2 (nI i) (nI (33 + 2 * i)) (A (33 + 2 * i)) (cpf lf (fun j => R (33 + 2 * j + 1)) i) (cpf wi (fun j => R (33 + 2 * j)) i) = some (Sum.inl (nI (i + 1), nI (33 + 2 * (i + 1)), A (33 + 2 * (i + 1)), cpf lf (fun j => R (33 + 2 * j + 1)) (i + 1), cpf wi (fun j => R (33 + 2 * j)) (i + 1)))
      unfold F_M_carryAll_imaged_L145
      have e : F_M_carry_imaged x2 (nI (33 + 2 * i)) (A (33 + 2 * i)) (wi i) = some (R (33 + 2 * i), nI (33 + 2 * i + 1), A (33 + 2 * i + 1)) := by rw [← h7 i hi]; exact H (33 + 2 * i) (by omega)
      have e2 : F_M_carry_imaged x2 (nI (33 + 2 * i + 1)) (A (33 + 2 * i + 1)) (lf i) = some (R (33 + 2 * i + 1), nI (33 + 2 * i + 2), A (33 + 2 * i + 2)) := by rw [← h8 i hi]; exact H (33 + 2 * i + 1) (by omega)
      rw [if_neg (nleC 4 4 hi (by omega) rfl), ck_nI _ hi (by omega), nI_clamp (show i < 2 ^ 31 by omega), show cpf wi (fun j => R (33 + 2 * j)) i i = wi i from if_neg (Nat.lt_irrefl i), e, Option.bind_some, ck_nI _ hi (by omega), ck_nI _ hi (by omega), show cpf lf (fun j => R (33 + 2 * j + 1)) i i = lf i from if_neg (Nat.lt_irrefl i), e2, Option.bind_some, ck_nI _ hi (by omega), nI_1, ← cpf_s wi (fun j => R (33 + 2 * j)) i, ← cpf_s lf (fun j => R (33 + 2 * j + 1)) i]
      rfl
    · rfl
  rw [cpf_0, cpf_0] at eF
  unfold F_M_carryAll_imaged ckz
  rw [if_pos hx, c0, Option.bind_some, c1, Option.bind_some, c2, Option.bind_some, eW, Option.bind_some, eT, Option.bind_some, eF, Option.bind_some]
theorem TK_imaged (to : Nat → Int32) (th dy dn : Int32) (wt kd fg hm wi lf : Nat → Int32) : F_M_carryAll_imaged dy dn th fg hm (to) (kd) (lf) (wi) (wt) 1 = some (dy, dn, 1, nI 41, th, fg, hm, cpf to (evS th dy dn wt kd fg hm wi lf) 41, kd, lf, wi, wt) := by
  have h := KA_imaged (x2 := 1) (A := fun p => cpf to (evS th dy dn wt kd fg hm wi lf) p) (R := evS th dy dn wt kd fg hm wi lf) (ev := evS th dy dn wt kd fg hm wi lf) (th := th) (dy := dy) (dn := dn) (wt := wt) (kd := kd) (fg := fg) (hm := hm) (wi := wi) (lf := lf) (Or.inr rfl) (fun p hp => by rw [K1_imaged _ hp, cpf_s]) rfl rfl rfl (fun j hj => evS_wt hj) (fun j hj => evS_kd hj) (fun j hj => evS_fg hj) (fun j hj => evS_hm hj) (fun j hj => evS_wi hj) (fun j hj => evS_lf hj)
  rw [cpf_0] at h
  rw [h, cpf_self (a := fg) (fun j hj => evS_fg hj), cpf_self (a := hm) (fun j hj => evS_hm hj), cpf_self (a := kd) (fun j hj => evS_kd hj), cpf_self (a := lf) (fun j hj => evS_lf hj), cpf_self (a := wi) (fun j hj => evS_wi hj), cpf_self (a := wt) (fun j hj => evS_wt hj)]
  rfl
theorem AK_imaged {a : Nat → Int32} {th dy dn : Int32} {wt kd fg hm wi lf : Nat → Int32} (hE : Enc a 0 th dy dn wt kd fg hm wi lf) {th2 dy2 dn2 : Int32} {wt2 kd2 fg2 hm2 wi2 lf2 : Nat → Int32} : F_M_carryAll_imaged dy2 dn2 th2 fg2 hm2 (a) (kd2) (lf2) (wi2) (wt2) 0 = some (dy, dn, 0, nI 41, th, cpf fg2 fg 8, cpf hm2 hm 8, a, cpf kd2 kd 8, cpf lf2 lf 4, cpf wi2 wi 4, cpf wt2 wt 6) := by
  obtain ⟨b0, b1, b2, b3, b4, b5⟩ := hE
  have h := KA_imaged (x2 := 0) (A := fun p => a) (R := a) (ev := evS th2 dy2 dn2 wt2 kd2 fg2 hm2 wi2 lf2) (th := th2) (dy := dy2) (dn := dn2) (wt := wt2) (kd := kd2) (fg := fg2) (hm := hm2) (wi := wi2) (lf := lf2) (Or.inl rfl) (fun p hp => K0_imaged _ hp _) rfl rfl rfl (fun j hj => evS_wt hj) (fun j hj => evS_kd hj) (fun j hj => evS_fg hj) (fun j hj => evS_hm hj) (fun j hj => evS_wi hj) (fun j hj => evS_lf hj)
  have b0' : a 0 = th := b0
  have b1' : a 1 = dy := b1
  have b2' : a 2 = dn := b2
  rw [h, b0', b1', b2', cpf_cong (a := fg2) (b := fun j => a (9 + 3 * j + 1)) (c := fg) (fun j hj => by have := (b4 j hj).2.1; rw [← this]; show a (9 + 3 * j + 1) = _; rw [show 0 + 10 + 3 * j = 9 + 3 * j + 1 by omega]), cpf_cong (a := hm2) (b := fun j => a (9 + 3 * j + 2)) (c := hm) (fun j hj => by have := (b4 j hj).2.2; rw [← this]; show a (9 + 3 * j + 2) = _; rw [show 0 + 11 + 3 * j = 9 + 3 * j + 2 by omega]), cpf_cong (a := kd2) (b := fun j => a (9 + 3 * j)) (c := kd) (fun j hj => by have := (b4 j hj).1; rw [← this]), cpf_cong (a := lf2) (b := fun j => a (33 + 2 * j + 1)) (c := lf) (fun j hj => by have := (b5 j hj).2; rw [← this]; show a (33 + 2 * j + 1) = _; rw [show 0 + 34 + 2 * j = 33 + 2 * j + 1 by omega]), cpf_cong (a := wi2) (b := fun j => a (33 + 2 * j)) (c := wi) (fun j hj => by have := (b5 j hj).1; rw [← this]), cpf_cong (a := wt2) (b := fun j => a (3 + j)) (c := wt) (fun j hj => by have := b3 j hj; rw [← this])]
