-- a step is noted, a turn is kept
def rot (sg : Nat → Nat) (y : Nat) : Nat → Nat := fun j => if j + 1 < y then sg (j + 1) else sg j
def cN (k : Nat) : Nat := if k < 8 then k else 7
def sgN (sg : Nat → Nat) (k : Nat) : Nat → Nat := if k < 8 then sg else va_up (rot sg 8) 7 (sg 0)
theorem cN_y {k : Nat} (h : k < 8) : cN k = k := if_pos h
theorem cN_n {k : Nat} (h : ¬ k < 8) : cN k = 7 := if_neg h
theorem cN_lt {k : Nat} : cN k < 8 := by
  unfold cN
  split <;> omega
theorem sgN_y {sg : Nat → Nat} {k : Nat} (h : k < 8) : sgN sg k = sg := if_pos h
theorem sgN_n {sg : Nat → Nat} {k : Nat} (h : ¬ k < 8) : sgN sg k = va_up (rot sg 8) 7 (sg 0) := if_neg h
theorem sgN_at {sg : Nat → Nat} {j : Nat} (hj : j < 8) : va_up (rot sg 8) 7 (sg 0) j = sg ((j + 1) % 8) := by
  unfold va_up rot
  by_cases c : j = 7
  · subst c
    rfl
  · rw [if_neg c]
    show (if j + 1 < 8 then sg (j + 1) else sg j) = _
    rw [if_pos (by omega), Nat.mod_eq_of_lt (by omega)]
theorem IP_N {sg : Nat → Nat} (hP : IP sg) (k : Nat) : IP (sgN sg k) := by
  by_cases h : k < 8
  · rw [sgN_y h]; exact hP
  · rw [sgN_n h]
    refine ⟨fun i hi => ?_, fun i j hi hj e => ?_⟩
    · rw [sgN_at hi]
      exact hP.1 _ (Nat.mod_lt _ (by omega))
    · rw [sgN_at hi, sgN_at hj] at e
      have := hP.2 _ _ (Nat.mod_lt _ (by omega)) (Nat.mod_lt _ (by omega)) e
      omega
theorem ckN_in {α : Type} {j : Nat} {k : Option α} (h : j < 8) : ckN j k = k := if_pos h
theorem C_forget {sg : Nat → Nat} (hP : IP sg) : F_Sps_forgetOldest sg = some (7, va_up (rot sg 8) 7 (sg 0)) := by
  have e : wh (fun (s : (Int32) × (Nat → Nat)) => F_Sps_forgetOldest_L9 s.1 s.2) 400 ((1 : Int32), rot sg 1) = some (rot sg 8) := by
    refine wh_for (fun i => (nI (i + 1), rot sg (i + 1))) 7 (rot sg 8) (fun i hi => ?_) ?_ 400 (by omega)
    · show F_Sps_forgetOldest_L9 (nI (i + 1)) (rot sg (i + 1)) = some (Sum.inl (nI (i + 1 + 1), rot sg (i + 1 + 1)))
      have e1 : nI (i + 1) - 1 = nI i := by rw [← nI_1, Int32.add_sub_cancel]
      have e2 : rot sg (i + 1) (i + 1) = sg (i + 1) := if_neg (by omega)
      have e3 : va_up (rot sg (i + 1)) i (sg (i + 1)) = rot sg (i + 1 + 1) := by
        funext j
        unfold va_up rot
        by_cases c : j = i
        · subst c
          rw [if_pos rfl, if_pos (by omega)]
        · rw [if_neg c]
          by_cases d : j + 1 < i + 1
          · rw [if_pos d, if_pos (by omega)]
          · rw [if_neg d, if_neg (by omega)]
      unfold F_Sps_forgetOldest_L9
      rw [if_neg (nleC 8 8 (show i + 1 < 8 by omega) (by omega) rfl), ck_nI _ (show i + 1 < 8 by omega) (by omega), e1, ck_nI _ (show i < 8 by omega) (by omega), nI_clamp (show i + 1 < 2 ^ 31 by omega), nI_clamp (show i < 2 ^ 31 by omega), e2, ckN_in (hP.1 _ (by omega)), e3, nI_1]
    · rfl
  have e1 : rot sg 1 = sg := by
    funext j
    exact if_neg (by omega)
  rw [e1] at e
  unfold F_Sps_forgetOldest
  rw [e, Option.bind_some]
  exact ckN_in (hP.1 0 (by omega))
theorem C_note13 {c : Nat} (hc : c < 8) {sg : Nat → Nat} (hs : sg c < 8) (sd sp sl : Nat → Int32) (dn p x : Int32) : F_Sps_note_J13_2 sd sp sl dn p x (nI c) sg = some (sg c, nI (c + 1), sg, upd sd (sg c) dn, upd sp (sg c) p, upd sl (sg c) x) := by
  have key : ∀ c : Fin 8, (if (0 : Int32) < (if (7 : Int32) < nI c.val then (7 : Int32) else nI c.val) then (if (7 : Int32) < nI c.val then (7 : Int32) else nI c.val) else (0 : Int32)) = nI c.val := by decide +kernel
  have e := key ⟨c, hc⟩
  unfold F_Sps_note_J13_2
  rw [e, ck_nI _ hc (by omega), nI_clamp (show c < 2 ^ 31 by omega), ckN_in hs, nI_1]
theorem C_note {k : Nat} (hk : k ≤ 8) {sg : Nat → Nat} (hP : IP sg) (sd sp sl : Nat → Int32) (dn p x : Int32) : F_Sps_note (nI k) sg sd sp sl dn p x = some (sgN sg k (cN k), nI (cN k + 1), sgN sg k, upd sd (sgN sg k (cN k)) dn, upd sp (sgN sg k (cN k)) p, upd sl (sgN sg k (cN k)) x) := by
  unfold F_Sps_note
  by_cases h : k < 8
  · rw [if_pos (ltC 8 8 h (by omega) rfl), cN_y h, sgN_y h]
    exact C_note13 h (hP.1 k h) sd sp sl dn p x
  · rw [if_neg (by rw [i32_lt, nI_toInt (by omega), show (8 : Int32).toInt = 8 by decide +kernel]; omega), C_forget hP, Option.bind_some, cN_n h, sgN_n h]
    have h2 := (IP_N hP k).1 7 (by omega)
    rw [sgN_n h] at h2
    exact C_note13 (c := 7) (by omega) h2 sd sp sl dn p x
theorem IT_cong {th dy : Int32} {kd fg go : Nat → Int32} {sg sg2 : Nat → Nat} {sp sl sb sf sd tu sp2 sl2 sb2 sf2 sd2 tu2 : Nat → Int32} (s : Nat) : ∀ k (wt hm wi lf : Nat → Int32) (dn : Int32), (∀ i, i < k → sp2 (sg2 i) = sp (sg (i + s)) ∧ sl2 (sg2 i) = sl (sg (i + s)) ∧ sb2 (sg2 i) = sb (sg (i + s)) ∧ sf2 (sg2 i) = sf (sg (i + s)) ∧ sd2 (sg2 i) = sd (sg (i + s))) → (∀ j, j < 41 * k → tu2 j = tu (j + 41 * s)) → IT th dy kd fg go sg sp sl sb sf sd tu (k + s) wt hm wi lf dn → IT th dy kd fg go sg2 sp2 sl2 sb2 sf2 sd2 tu2 k wt hm wi lf dn
  | 0, _, _, _, _, _, _, _, _ => trivial
  | k + 1, wt, hm, wi, lf, dn, h1, h2, h3 => by
    rw [show k + 1 + s = k + s + 1 by omega] at h3
    obtain ⟨a1, a2, a3, a4, a5, a6⟩ := h3
    obtain ⟨b1, b2, b3, b4, b5⟩ := h1 k (by omega)
    unfold IT
    rw [b1, b2, b3, b4, b5]
    refine ⟨a1, a2, a3, a4, ?_, IT_cong s k _ _ _ _ _ (fun i hi => h1 i (by omega)) (fun j hj => h2 j (by omega)) a6⟩
    obtain ⟨c1, c2, c3, c4, c5, c6⟩ := a5
    refine ⟨?_, ?_, ?_, fun j hj => ?_, fun j hj => ⟨?_, ?_, ?_⟩, fun j hj => ⟨?_, ?_⟩⟩
    · rw [h2 _ (by omega), ← c1, show 41 * k + 41 * s = 41 * (k + s) by omega]
    · rw [h2 _ (by omega), ← c2, show 41 * k + 1 + 41 * s = 41 * (k + s) + 1 by omega]
    · rw [h2 _ (by omega), ← c3, show 41 * k + 2 + 41 * s = 41 * (k + s) + 2 by omega]
    · rw [h2 _ (by omega), ← c4 j hj, show 41 * k + 3 + j + 41 * s = 41 * (k + s) + 3 + j by omega]
    · rw [h2 _ (by omega), ← (c5 j hj).1, show 41 * k + 9 + 3 * j + 41 * s = 41 * (k + s) + 9 + 3 * j by omega]
    · rw [h2 _ (by omega), ← (c5 j hj).2.1, show 41 * k + 10 + 3 * j + 41 * s = 41 * (k + s) + 10 + 3 * j by omega]
    · rw [h2 _ (by omega), ← (c5 j hj).2.2, show 41 * k + 11 + 3 * j + 41 * s = 41 * (k + s) + 11 + 3 * j by omega]
    · rw [h2 _ (by omega), ← (c6 j hj).1, show 41 * k + 33 + 2 * j + 41 * s = 41 * (k + s) + 33 + 2 * j by omega]
    · rw [h2 _ (by omega), ← (c6 j hj).2, show 41 * k + 34 + 2 * j + 41 * s = 41 * (k + s) + 34 + 2 * j by omega]
def shT (tu : Nat → Int32) (y : Nat) : Nat → Int32 := fun p => if p + 41 < y then tu (p + 41) else tu p
def cpo (a E : Nat → Int32) (o i : Nat) : Nat → Int32 := fun p => if o ≤ p ∧ p < o + i then E (p - o) else a p
theorem cpo_0 (a E : Nat → Int32) (o : Nat) : cpo a E o 0 = a := funext fun p => if_neg (by omega)
theorem cpo_s (a E : Nat → Int32) (o i : Nat) : upd (cpo a E o i) (o + i) (E i) = cpo a E o (i + 1) := by
  funext p
  unfold upd cpo
  by_cases c : p = o + i
  · subst c
    rw [if_pos rfl, if_pos (by omega), show o + i - o = i by omega]
  · rw [if_neg c]
    by_cases d : o ≤ p ∧ p < o + i
    · rw [if_pos d, if_pos (by omega)]
    · rw [if_neg d, if_neg (by omega)]
def tuN (tu : Nat → Int32) (k : Nat) (E : Nat → Int32) : Nat → Int32 := cpo (if k < 8 then tu else shT tu 328) E (41 * cN k) 41
theorem tuN_at (tu : Nat → Int32) (k : Nat) (E : Nat → Int32) {p : Nat} (hp : p < 41) : tuN tu k E (41 * cN k + p) = E p := by
  unfold tuN cpo
  rw [if_pos (by omega), show 41 * cN k + p - 41 * cN k = p by omega]
theorem tuN_lo (tu : Nat → Int32) (k : Nat) (E : Nat → Int32) {j : Nat} (hj : j < 41 * cN k) : tuN tu k E j = if k < 8 then tu j else tu (j + 41) := by
  have hc : cN k < 8 := cN_lt
  unfold tuN cpo
  rw [if_neg (by omega)]
  by_cases h : k < 8
  · rw [if_pos h, if_pos h]
  · rw [if_neg h, if_neg h]
    exact if_pos (by omega)
theorem Enc_N (tu : Nat → Int32) (k : Nat) (th dy dn : Int32) (wt kd fg hm wi lf : Nat → Int32) : Enc (tuN tu k (evS th dy dn wt kd fg hm wi lf)) (41 * cN k) th dy dn wt kd fg hm wi lf := by
  have T := fun p hp => tuN_at tu k (evS th dy dn wt kd fg hm wi lf) (p := p) hp
  refine ⟨T 0 (by omega), T 1 (by omega), T 2 (by omega), fun j hj => ?_, fun j hj => ⟨?_, ?_, ?_⟩, fun j hj => ⟨?_, ?_⟩⟩
  · rw [show 41 * cN k + 3 + j = 41 * cN k + (3 + j) by omega, T _ (by omega), evS_wt hj]
  · rw [show 41 * cN k + 9 + 3 * j = 41 * cN k + (9 + 3 * j) by omega, T _ (by omega), evS_kd hj]
  · rw [show 41 * cN k + 10 + 3 * j = 41 * cN k + (9 + 3 * j + 1) by omega, T _ (by omega), evS_fg hj]
  · rw [show 41 * cN k + 11 + 3 * j = 41 * cN k + (9 + 3 * j + 2) by omega, T _ (by omega), evS_hm hj]
  · rw [show 41 * cN k + 33 + 2 * j = 41 * cN k + (33 + 2 * j) by omega, T _ (by omega), evS_wi hj]
  · rw [show 41 * cN k + 34 + 2 * j = 41 * cN k + (33 + 2 * j + 1) by omega, T _ (by omega), evS_lf hj]
theorem push {th dy dn dn2 : Int32} {kd fg go wt hm wi lf wt2 hm2 wi2 lf2 : Nat → Int32} {sg : Nat → Nat} {sp sl sb sf sd tu sp2 sl2 sb2 sf2 sd2 : Nat → Int32} {k : Nat} (hk : k ≤ 8) (hP : IP sg) (hS : IS th dy dn wt kd fg go hm wi lf) (hT : IT th dy kd fg go sg sp sl sb sf sd tu k wt hm wi lf dn) (q1 : ∀ r, r ≠ sgN sg k (cN k) → sp2 r = sp r) (q2 : ∀ r, r ≠ sgN sg k (cN k) → sl2 r = sl r) (q3 : ∀ r, r ≠ sgN sg k (cN k) → sb2 r = sb r) (q4 : ∀ r, r ≠ sgN sg k (cN k) → sf2 r = sf r) (q5 : ∀ r, r ≠ sgN sg k (cN k) → sd2 r = sd r) (b1 : sp2 (sgN sg k (cN k)) = 0 → 0 ≤ sl2 (sgN sg k (cN k)) ∧ sl2 (sgN sg k (cN k)) < 6) (b2 : sp2 (sgN sg k (cN k)) = 1 → 0 ≤ sl2 (sgN sg k (cN k)) ∧ sl2 (sgN sg k (cN k)) < dy) (b3 : sp2 (sgN sg k (cN k)) = 0 ∨ sp2 (sgN sg k (cN k)) = 1 ∨ sp2 (sgN sg k (cN k)) = 2)
    (e1 : uDn (sp2 (sgN sg k (cN k))) (sd2 (sgN sg k (cN k))) dn2 = dn) (e2 : uWt (sp2 (sgN sg k (cN k))) (sl2 (sgN sg k (cN k))) (sb2 (sgN sg k (cN k))) wt2 = wt) (e3 : uHm (sp2 (sgN sg k (cN k))) (sl2 (sgN sg k (cN k))) (sb2 (sgN sg k (cN k))) hm2 = hm) (e4 : uFd (sp2 (sgN sg k (cN k))) (sl2 (sgN sg k (cN k))) (sb2 (sgN sg k (cN k))) wi2 = wi) (e5 : uFd (sp2 (sgN sg k (cN k))) (sl2 (sgN sg k (cN k))) (sf2 (sgN sg k (cN k))) lf2 = lf) : IT th dy kd fg go (sgN sg k) sp2 sl2 sb2 sf2 sd2 (tuN tu k (evS th dy dn wt kd fg hm wi lf)) (cN k + 1) wt2 hm2 wi2 lf2 dn2 := by
  have hPN := IP_N hP k
  have hc : cN k < 8 := cN_lt
  unfold IT
  rw [e1, e2, e3, e4, e5]
  refine ⟨b1, b2, b3, hS, Enc_N tu k th dy dn wt kd fg hm wi lf, ?_⟩
  have hne : ∀ i, i < cN k → sgN sg k i ≠ sgN sg k (cN k) := by
    intro i hi e
    have := hPN.2 i (cN k) (by omega) hc e
    omega
  by_cases h : k < 8
  · refine IT_cong 0 (cN k) _ _ _ _ _ (fun i hi => ?_) (fun j hj => ?_) (by rw [cN_y h]; exact hT)
    · have hi2 := hne i hi
      have e : sgN sg k i = sg (i + 0) := by rw [sgN_y h]; rfl
      rw [q1 _ hi2, q2 _ hi2, q3 _ hi2, q4 _ hi2, q5 _ hi2, e]
      exact ⟨rfl, rfl, rfl, rfl, rfl⟩
    · rw [tuN_lo tu k _ hj, if_pos h]
      rfl
  · refine IT_cong 1 (cN k) _ _ _ _ _ (fun i hi => ?_) (fun j hj => ?_) (by rw [cN_n h, show 7 + 1 = k by omega]; exact hT)
    · have hi2 := hne i hi
      have e : sgN sg k i = sg (i + 1) := by
        rw [cN_n h] at hi
        rw [sgN_n h, sgN_at (by omega), Nat.mod_eq_of_lt (by omega)]
      rw [q1 _ hi2, q2 _ hi2, q3 _ hi2, q4 _ hi2, q5 _ hi2, e]
      exact ⟨rfl, rfl, rfl, rfl, rfl⟩
    · rw [tuN_lo tu k _ hj, if_neg h]
theorem mul41 {c i : Nat} (hc : c < 8) (hi : i < 41) : (41 : Int32) * nI c + nI i = nI (41 * c + i) := by
  have key : ∀ c : Fin 8, (41 : Int32) * nI c.val = nI (41 * c.val) := by decide +kernel
  have e := key ⟨c, hc⟩
  have e2 : (41 : Int32) * nI c = nI (41 * c) := e
  rw [e2, nI_addS (by omega)]
theorem M_keep50 {c : Nat} (hc : c < 8) (dy dn th : Int32) (fg hm kd lf to tu wi wt : Nat → Int32) : F_M_keepTurn_J50_2 dy dn th fg hm kd lf to wi wt (nI c) tu = some (dy, dn, 1, 3, nI 41, th, nI (c + 1), fg, hm, kd, lf, cpf to (evS th dy dn wt kd fg hm wi lf) 41, cpo tu (evS th dy dn wt kd fg hm wi lf) (41 * c) 41, wi, wt) := by
  unfold F_M_keepTurn_J50_2
  rw [TK_turnOf, Option.bind_some]
  have e : wh (fun (s : (Int32) × (Nat → Int32)) => F_M_keepTurn_L61 (nI c) (dy, dn, 1, nI 41, th, fg, hm, kd, lf, cpf to (evS th dy dn wt kd fg hm wi lf) 41, wi, wt) s.1 s.2) 400 ((0 : Int32), cpo tu (evS th dy dn wt kd fg hm wi lf) (41 * c) 0) = some (cpo tu (evS th dy dn wt kd fg hm wi lf) (41 * c) 41) := by
    refine wh_for (fun i => (nI i, cpo tu (evS th dy dn wt kd fg hm wi lf) (41 * c) i)) 41 (cpo tu (evS th dy dn wt kd fg hm wi lf) (41 * c) 41) (fun i hi => ?_) ?_ 400 (by omega)
    · show F_M_keepTurn_L61 (nI c) (dy, dn, 1, nI 41, th, fg, hm, kd, lf, cpf to (evS th dy dn wt kd fg hm wi lf) 41, wi, wt) (nI i) (cpo tu (evS th dy dn wt kd fg hm wi lf) (41 * c) i) = some (Sum.inl (nI (i + 1), cpo tu (evS th dy dn wt kd fg hm wi lf) (41 * c) (i + 1)))
      unfold F_M_keepTurn_L61
      rw [if_neg (nleC 41 41 hi (by omega) rfl), ck_nI _ hi (by omega), mul41 hc hi, ck_nI _ (show 41 * c + i < 328 by omega) (by omega), nI_clamp (show i < 2 ^ 31 by omega), nI_clamp (show 41 * c + i < 2 ^ 31 by omega), nI_1, ← cpo_s tu (evS th dy dn wt kd fg hm wi lf) (41 * c) i]
      show some (Sum.inl (nI (i + 1), upd _ (41 * c + i) (cpf to (evS th dy dn wt kd fg hm wi lf) 41 i))) = _
      rw [cpf_at hi]
    · rfl
  rw [cpo_0] at e
  rw [e, Option.bind_some, nI_1]
theorem M_keep {k : Nat} (hk : k ≤ 8) (dy dn th : Int32) (fg hm kd lf to tu wi wt : Nat → Int32) : F_M_keepTurn dy dn th (nI k) fg hm kd lf to tu wi wt = some (dy, dn, 1, 3, nI 41, th, nI (cN k + 1), fg, hm, kd, lf, cpf to (evS th dy dn wt kd fg hm wi lf) 41, tuN tu k (evS th dy dn wt kd fg hm wi lf), wi, wt) := by
  unfold F_M_keepTurn tuN
  by_cases h : k < 8
  · rw [if_neg (neC 8 8 (show k ≠ 8 by omega) (by omega) (by omega) rfl), cN_y h, if_pos h]
    exact M_keep50 h dy dn th fg hm kd lf to tu wi wt
  · obtain rfl : k = 8 := by omega
    have e : wh (fun (s : (Int32) × (Nat → Int32)) => F_M_keepTurn_L12 s.1 s.2) 400 ((41 : Int32), shT tu 41) = some (shT tu 328) := by
      refine wh_for (fun i => (nI (41 + i), shT tu (41 + i))) 287 (shT tu 328) (fun i hi => ?_) ?_ 400 (by omega)
      · show F_M_keepTurn_L12 (nI (41 + i)) (shT tu (41 + i)) = some (Sum.inl (nI (41 + i + 1), shT tu (41 + i + 1)))
        have e1 : nI (41 + i) - 41 = nI i := by
          rw [Nat.add_comm, ← nI_addS (show i + 41 < 2 ^ 31 by omega)]
          exact Int32.add_sub_cancel _ _
        have e2 : shT tu (41 + i) (41 + i) = tu (41 + i) := if_neg (by omega)
        have e3 : upd (shT tu (41 + i)) i (tu (41 + i)) = shT tu (41 + i + 1) := by
          funext p
          unfold upd shT
          by_cases c : p = i
          · subst c
            rw [if_pos rfl, if_pos (by omega), Nat.add_comm]
          · rw [if_neg c]
            by_cases d : p + 41 < 41 + i
            · rw [if_pos d, if_pos (by omega)]
            · rw [if_neg d, if_neg (by omega)]
        unfold F_M_keepTurn_L12
        rw [if_neg (nleC 328 328 (show 41 + i < 328 by omega) (by omega) rfl), ck_nI _ (show 41 + i < 328 by omega) (by omega), e1, ck_nI _ (show i < 328 by omega) (by omega), nI_clamp (show 41 + i < 2 ^ 31 by omega), nI_clamp (show i < 2 ^ 31 by omega), e2, e3, nI_1]
      · rfl
    have e1 : shT tu 41 = tu := funext fun p => if_neg (by omega)
    rw [e1] at e
    rw [if_pos (by decide), e, Option.bind_some, cN_n (by omega), if_neg (by omega)]
    exact M_keep50 (c := 7) (by omega) dy dn th fg hm kd lf to (shT tu 328) wi wt
