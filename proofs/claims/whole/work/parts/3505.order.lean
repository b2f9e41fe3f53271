-- order: no order does more than the least cut, nor more than the days that still find a field
def cn (P : Nat → Bool) : Nat → Nat
  | 0 => 0
  | n + 1 => if P n = true then cn P n + 1 else cn P n
theorem cn_y {P : Nat → Bool} {n : Nat} (h : P n = true) : cn P (n + 1) = cn P n + 1 := if_pos h
theorem cn_n {P : Nat → Bool} {n : Nat} (h : P n = false) : cn P (n + 1) = cn P n := if_neg (by rw [h]; decide)
theorem cn_le (P : Nat → Bool) : ∀ n, cn P n ≤ n
  | 0 => Nat.le_refl 0
  | n + 1 => by
    have := cn_le P n
    rw [cn]
    split <;> omega
theorem cn_cong {P P2 : Nat → Bool} : ∀ n, (∀ i, i < n → P i = P2 i) → cn P n = cn P2 n
  | 0, _ => rfl
  | n + 1, h => by
    rw [cn, cn, h n (by omega), cn_cong n (fun i hi => h i (by omega))]
def cnx (P : Nat → Bool) (d : Nat) : Nat → Bool := fun i => if i = d then false else P i
theorem cnx_lo (P : Nat → Bool) {d : Nat} : ∀ n, n ≤ d → cn (cnx P d) n = cn P n := by
  intro n h
  exact cn_cong n (fun i hi => if_neg (by omega))
theorem cnx_hi {P : Nat → Bool} {d : Nat} (hd : P d = true) : ∀ n, d < n → cn (cnx P d) n + 1 = cn P n
  | 0, h => absurd h (by omega)
  | n + 1, h => by
    by_cases c : n = d
    · subst c
      rw [cn_n (show cnx P n n = false from if_pos rfl), cn_y hd, cnx_lo P n (Nat.le_refl n)]
    · have ih := cnx_hi hd n (by omega)
      have e : cnx P d n = P n := if_neg c
      rw [cn, cn, e]
      split <;> omega
theorem cn_inj {q : Nat → Nat} {m : Nat} : ∀ (K : Nat) (P : Nat → Bool), (∀ i, i < K → q i < m) → (∀ i j, i < K → j < K → q i = q j → i = j) → cn (fun i => P (q i)) K ≤ cn P m
  | 0, _, _, _ => Nat.zero_le _
  | K + 1, P, h1, h2 => by
    cases hP : P (q K) with
    | false =>
      rw [cn_n (P := fun i => P (q i)) hP]
      exact cn_inj K P (fun i hi => h1 i (by omega)) (fun i j hi hj => h2 i j (by omega) (by omega))
    | true =>
      rw [cn_y (P := fun i => P (q i)) hP]
      have ih := cn_inj K (cnx P (q K)) (fun i hi => h1 i (by omega)) (fun i j hi hj => h2 i j (by omega) (by omega))
      have e : cn (fun i => cnx P (q K) (q i)) K = cn (fun i => P (q i)) K := cn_cong K (fun i hi => if_neg (fun e => by
        have := h2 i K (by omega) (by omega) e
        omega))
      have e2 := cnx_hi hP m (h1 K (by omega))
      omega
-- the cut
def lam (z : Nat → Nat) (c : Nat) : Nat → Nat
  | 0 => 0
  | f + 1 => if bt (nI c) f = true then lam z c f + z f else lam z c f
theorem lam_y {z : Nat → Nat} {c f : Nat} (h : bt (nI c) f = true) : lam z c (f + 1) = lam z c f + z f := if_pos h
theorem lam_n {z : Nat → Nat} {c f : Nat} (h : bt (nI c) f = false) : lam z c (f + 1) = lam z c f := if_neg (by rw [h]; decide)
theorem lam_cong {z z2 : Nat → Nat} (c : Nat) : ∀ n, (∀ i, i < n → bt (nI c) i = true → z i = z2 i) → lam z c n = lam z2 c n
  | 0, _ => rfl
  | n + 1, h => by
    have ih := lam_cong c n (fun i hi => h i (by omega))
    cases hb : bt (nI c) n with
    | false => rw [lam_n hb, lam_n hb, ih]
    | true => rw [lam_y hb, lam_y hb, ih, h n (by omega) hb]
theorem lam_in {z : Nat → Nat} {c f : Nat} (hb : bt (nI c) f = true) (h1 : 1 ≤ z f) : ∀ n, f < n → lam (updn z f (z f - 1)) c n + 1 = lam z c n
  | 0, h => absurd h (by omega)
  | n + 1, h => by
    by_cases e : n = f
    · subst e
      have e1 : lam (updn z n (z n - 1)) c n = lam z c n := lam_cong c n (fun i hi _ => if_neg (by omega))
      have e2 : updn z n (z n - 1) n = z n - 1 := if_pos rfl
      rw [lam_y hb, lam_y hb, e1, e2]
      omega
    · have ih := lam_in hb h1 n (by omega)
      have e2 : updn z f (z f - 1) n = z n := if_neg e
      cases hb2 : bt (nI c) n with
      | false => rw [lam_n hb2, lam_n hb2, ih]
      | true =>
        rw [lam_y hb2, lam_y hb2, e2]
        omega
theorem lam_99 {z : Nat → Nat} (c : Nat) : ∀ n, (∀ i, i < n → z i ≤ 9) → lam z c n ≤ 9 * n
  | 0, _ => Nat.le_refl 0
  | n + 1, h => by
    have ih := lam_99 (z := z) c n (fun i hi => h i (by omega))
    have := h n (by omega)
    rw [lam]
    split <;> omega
theorem wsm_lam {lf : Nat → Int32} {y : Nat → Nat} (hy : ∀ i, i < 4 → lf i = nI (y i) ∧ y i ≤ 9) (c : Nat) : ∀ n, n ≤ 4 → wsm lf (nI c) n = nI (lam y c n)
  | 0, _ => rfl
  | n + 1, h => by
    have ih := wsm_lam hy c n (by omega)
    obtain ⟨h1, h2⟩ := hy n (by omega)
    have h3 := lam_99 (z := y) c n (fun i hi => (hy i (by omega)).2)
    cases hb : bt (nI c) n with
    | false => rw [wsm_n hb, lam_n hb, ih]
    | true => rw [wsm_y hb, lam_y hb, ih, h1, nI_addS (by omega)]
theorem ogs_y {wi : Nat → Int32} {w : Int32} {c f : Nat} (hb : bt (nI c) f = false) (hh : hq w (wi f) = true) : ∀ n, f < n → ogs wi w c n = true
  | 0, h => absurd h (by omega)
  | n + 1, h => by
    rw [ogs]
    by_cases e : n = f
    · subst e
      rw [hh, hb]
      cases ogs wi w c n <;> rfl
    · rw [ogs_y hb hh n (by omega)]
      rfl
theorem gwc_cut {we lf wi : Nat → Int32} {y : Nat → Nat} (hy : ∀ i, i < 4 → lf i = nI (y i) ∧ y i ≤ 9) (c : Nat) : ∀ d, ∃ z : Nat → Nat, (∀ i, i < 4 → gwl nsk we lf wi d i = nI (z i) ∧ z i ≤ 9) ∧ gwc nsk we lf wi d + lam z c 4 ≤ lam y c 4 + cn (fun i => ogs wi (we i) c 4) d
  | 0 => ⟨y, hy, by
    show 0 + lam y c 4 ≤ lam y c 4 + 0
    omega⟩
  | d + 1 => by
    obtain ⟨z, hz, hs⟩ := gwc_cut (we := we) (wi := wi) hy c d
    have hcn : cn (fun i => ogs wi (we i) c 4) d ≤ cn (fun i => ogs wi (we i) c 4) (d + 1) := by
      rw [cn]
      split <;> omega
    rw [gwl, gwc, if_neg (nsk_n d), if_neg (nsk_n d)]
    cases e : ffw (gwl nsk we lf wi d) wi (we d) with
    | none =>
      rw [spl_n e]
      refine ⟨z, hz, ?_⟩
      show gwc nsk we lf wi d + lam z c 4 ≤ _
      omega
    | some f =>
      obtain ⟨h4, h0, hh⟩ := ffw_in e
      obtain ⟨hz1, hz2⟩ := hz f h4
      have h1 : 1 ≤ z f := by
        rw [hz1, i32_le, nI_toInt (by omega), Int32.toInt_zero] at h0
        omega
      rw [spl_y e, if_pos (show (some f).isSome = true from rfl)]
      refine ⟨updn z f (z f - 1), fun i hi => ?_, ?_⟩
      · by_cases c : i = f
        · subst c
          rw [updA, updn, if_pos rfl, hz1, sub1 h1]
          exact ⟨rfl, by omega⟩
        · rw [updN _ _ c, updn, if_neg c]
          exact hz i hi
      · cases hb : bt (nI c) f with
        | true =>
          have := lam_in (z := z) hb h1 4 h4
          omega
        | false =>
          have e1 : lam (updn z f (z f - 1)) c 4 = lam z c 4 := lam_cong c 4 (fun i _ hbi => if_neg (fun e => by
            rw [e, hb] at hbi
            cases hbi))
          have e2 : cn (fun i => ogs wi (we i) c 4) (d + 1) = cn (fun i => ogs wi (we i) c 4) d + 1 := cn_y (P := fun i => ogs wi (we i) c 4) (ogs_y hb hh 4 h4)
          omega
theorem wkq_cut {W lf wi : Nat → Int32} {y : Nat → Nat} (hy : ∀ i, i < 4 → lf i = nI (y i) ∧ y i ≤ 9) {m K : Nat} {q : Nat → Nat} (h1 : ∀ i, i < K → q i < m) (h2 : ∀ i j, i < K → j < K → q i = q j → i = j) (c : Nat) : wkq W lf wi K q ≤ lam y c 4 + cn (fun d => ogs wi (W d) c 4) m := by
  obtain ⟨z, -, hs⟩ := gwc_cut (we := fun i => W (q i)) (wi := wi) hy c K
  have := cn_inj K (fun d => ogs wi (W d) c 4) h1 h2
  unfold wkq
  omega
theorem cCs_cn {lf wi : Nat → Int32} (we : Nat → Int32) {y : Nat → Nat} (hy : ∀ i, i < 4 → lf i = nI (y i) ∧ y i ≤ 9) (c : Nat) : ∀ d, d ≤ 8 → cCs lf wi we c d = nI (lam y c 4 + cn (fun d => ogs wi (we d) c 4) d)
  | 0, _ => wsm_lam hy c 4 (Nat.le_refl 4)
  | d + 1, h => by
    have ih := cCs_cn (wi := wi) we hy c d (by omega)
    have h3 := lam_99 (z := y) c 4 (fun i hi => (hy i hi).2)
    have h4 := cn_le (fun d => ogs wi (we d) c 4) d
    rw [cCs, ih]
    by_cases e : ogs wi (we d) c 4 = true
    · rw [if_pos e, cn_y (P := fun d => ogs wi (we d) c 4) e, nI_1, Nat.add_assoc]
    · rw [if_neg e, cn_n (P := fun d => ogs wi (we d) c 4) (Bool.eq_false_iff.mpr e)]
theorem mnC_cut {lf wi : Nat → Int32} (we : Nat → Int32) {y : Nat → Nat} (hy : ∀ i, i < 4 → lf i = nI (y i) ∧ y i ≤ 9) {m : Nat} (hm8 : m ≤ 8) : ∀ N, ∃ s, s ≤ m ∧ mnC lf wi we m N = nI s ∧ ∀ v, v ≤ m → (∀ c, v ≤ lam y c 4 + cn (fun d => ogs wi (we d) c 4) m) → v ≤ s
  | 0 => ⟨m, Nat.le_refl m, rfl, fun v hv _ => hv⟩
  | N + 1 => by
    obtain ⟨s, h1, h2, h3⟩ := mnC_cut (wi := wi) we hy hm8 N
    have e := cCs_cn (wi := wi) we hy N m hm8
    have h5 := lam_99 (z := y) N 4 (fun i hi => (hy i hi).2)
    have h6 := cn_le (fun d => ogs wi (we d) N 4) m
    rw [mnC, e, h2]
    by_cases c : lam y N 4 + cn (fun d => ogs wi (we d) N 4) m < s
    · rw [if_pos (nI_lt c (by omega))]
      exact ⟨_, by omega, rfl, fun v _ hc => hc N⟩
    · rw [if_neg (show ¬ nI (lam y N 4 + cn (fun d => ogs wi (we d) N 4) m) < nI s by
        rw [i32_lt, nI_toInt (by omega), nI_toInt (by omega)]
        omega)]
      exact ⟨s, h1, rfl, h3⟩
-- the days that still find a field
theorem fst1_all {α : Type} {o : Nat → Option α} : ∀ k i, fst1 o i k = none → ∀ j, i ≤ j → j < i + k → o j = none
  | 0, i, _, j, h1, h2 => absurd h2 (by omega)
  | k + 1, i, h, j, h1, h2 => by
    unfold fst1 at h
    cases e : o i with
    | some r =>
      rw [e] at h
      cases h
    | none =>
      rw [e] at h
      by_cases c : j = i
      · rw [c]
        exact e
      · exact fst1_all k (i + 1) h j (by omega) (by omega)
theorem ffw_is {lf wi : Nat → Int32} {w : Int32} {f : Nat} (h4 : f < 4) (h0 : ¬ lf f ≤ 0) (hh : hq w (wi f) = true) : (ffw lf wi w).isSome = true := by
  cases e : ffw lf wi w with
  | some g => rfl
  | none =>
    have := fst1_all 4 0 e f (Nat.zero_le f) (by omega)
    unfold ffo at this
    rw [if_neg h0, if_pos hh] at this
    cases this
theorem spl_pos {lf wi : Nat → Int32} {w : Int32} {f : Nat} (h : ¬ spl lf wi w f ≤ 0) : ¬ lf f ≤ 0 := by
  cases e : ffw lf wi w with
  | none =>
    rw [spl_n e] at h
    exact h
  | some g =>
    obtain ⟨-, h0, -⟩ := ffw_in e
    by_cases c : f = g
    · rw [c]
      exact h0
    · rw [spl_y e, updN _ _ c] at h
      exact h
theorem gwl_pos {we lf wi : Nat → Int32} {f j : Nat} : ∀ n, ¬ gwl nsk we lf wi (j + n) f ≤ 0 → ¬ gwl nsk we lf wi j f ≤ 0
  | 0, h => h
  | n + 1, h => by
    rw [← Nat.add_assoc, gwl, if_neg (nsk_n (j + n))] at h
    exact gwl_pos n (spl_pos h)
theorem gwc_able {we lf wi : Nat → Int32} (j : Nat) : ∀ n, gwc nsk we lf wi (j + n) ≤ gwc nsk we lf wi j + cn (fun i => (ffw (gwl nsk we lf wi j) wi (we (j + i))).isSome) n
  | 0 => Nat.le_refl _
  | n + 1 => by
    have ih := gwc_able (we := we) (lf := lf) (wi := wi) j n
    have hcn : cn (fun i => (ffw (gwl nsk we lf wi j) wi (we (j + i))).isSome) n ≤ cn (fun i => (ffw (gwl nsk we lf wi j) wi (we (j + i))).isSome) (n + 1) := by
      rw [cn]
      split <;> omega
    rw [← Nat.add_assoc, gwc, if_neg (nsk_n (j + n))]
    by_cases c : (ffw (gwl nsk we lf wi (j + n)) wi (we (j + n))).isSome = true
    · obtain ⟨f, hf⟩ := Option.isSome_iff_exists.mp c
      obtain ⟨h4, h0, hh⟩ := ffw_in hf
      have e2 : cn (fun i => (ffw (gwl nsk we lf wi j) wi (we (j + i))).isSome) (n + 1) = cn (fun i => (ffw (gwl nsk we lf wi j) wi (we (j + i))).isSome) n + 1 := cn_y (P := fun i => (ffw (gwl nsk we lf wi j) wi (we (j + i))).isSome) (ffw_is h4 (gwl_pos n h0) hh)
      rw [if_pos c]
      omega
    · rw [if_neg c]
      omega
-- the orders that go on from a path
def Ext (m r u : Nat) (pa q : Nat → Nat) : Prop := (∀ i, i < m - r → q i = pa i) ∧ (∀ i, m - r ≤ i → i < m → q i < m ∧ bt (nI u) (q i) = false) ∧ (∀ i j, m - r ≤ i → i < m → m - r ≤ j → j < m → q i = q j → i = j)
def Pre (m j u : Nat) (pa : Nat → Nat) : Prop := (∀ i, i < j → pa i < m ∧ bt (nI u) (pa i) = true) ∧ (∀ i i2, i < j → i2 < j → pa i = pa i2 → i = i2)
theorem bt_orF {u d i : Nat} (hu : u < 256) (hd : d < 8) (hi : i < 8) (h : bt (nI (u ||| 2 ^ d)) i = false) : bt (nI u) i = false ∧ i ≠ d := by
  rw [bt_or hu hd hi] at h
  cases hb : bt (nI u) i with
  | true =>
    rw [hb] at h
    cases h
  | false =>
    refine ⟨rfl, fun e => ?_⟩
    rw [hb, decide_eq_true e] at h
    cases h
theorem Ext_step {m r u d : Nat} {pa q : Nat → Nat} (hm8 : m ≤ 8) (hu : u < 256) (hd : d < m) (hb : bt (nI u) d = false) (hr : r + 1 ≤ m) (h : Ext m r (u ||| 2 ^ d) (updn pa (m - (r + 1)) d) q) : Ext m (r + 1) u pa q := by
  obtain ⟨h1, h2, h3⟩ := h
  have e0 : q (m - (r + 1)) = d := by
    rw [h1 _ (by omega)]
    exact if_pos rfl
  have later : ∀ i, m - r ≤ i → i < m → q i < m ∧ bt (nI u) (q i) = false ∧ q i ≠ d := by
    intro i a b
    obtain ⟨c1, c2⟩ := h2 i a b
    obtain ⟨c3, c4⟩ := bt_orF hu (show d < 8 by omega) (show q i < 8 by omega) c2
    exact ⟨c1, c3, c4⟩
  refine ⟨fun i hi => ?_, fun i a b => ?_, fun i j a b a2 b2 e => ?_⟩
  · rw [h1 i (by omega)]
    exact if_neg (by omega)
  · by_cases c : i = m - (r + 1)
    · rw [c, e0]
      exact ⟨hd, hb⟩
    · obtain ⟨c1, c2, -⟩ := later i (by omega) b
      exact ⟨c1, c2⟩
  · by_cases c : i = m - (r + 1)
    · by_cases c2 : j = m - (r + 1)
      · omega
      · rw [c, e0] at e
        exact absurd e.symm (later j (by omega) b2).2.2
    · by_cases c2 : j = m - (r + 1)
      · rw [c2, e0] at e
        exact absurd e (later i (by omega) b).2.2
      · exact h3 i j (by omega) b (by omega) b2 e
theorem odE_skip2 {wk : (Nat → Nat) → Nat} {m : Nat} (hm8 : m ≤ 8) : ∀ r u pa S, r ≤ m → u < 256 → (∀ q, Ext m r u pa q → wk q < S.1) → odE wk m r u pa S = S
  | 0, u, pa, S, _, _, h => by
    have h1 := h pa ⟨fun i _ => rfl, fun i a b => absurd b (by omega), fun i j a b => absurd b (by omega)⟩
    rw [odE, gS, if_neg (by omega)]
  | r + 1, u, pa, S, hr, hu, h => by
    have key : ∀ d, d ≤ m → odL (fun d S => odE wk m r (u ||| 2 ^ d) (updn pa (m - (r + 1)) d) S) u d S = S := by
      intro d
      induction d with
      | zero => intro _; rfl
      | succ d ih =>
        intro hd
        cases hb : bt (nI u) d
        · rw [odL, if_neg (by rw [hb]; decide), ih (by omega)]
          exact odE_skip2 hm8 r _ _ S (by omega) (or_lt hu (by omega)) (fun q hq => h q (Ext_step hm8 hu (by omega) hb hr hq))
        · rw [odL, if_pos hb]
          exact ih (by omega)
    rw [odE, key m (Nat.le_refl m)]
theorem Ext_all {m r u : Nat} {pa q : Nat → Nat} (hp : Pre m (m - r) u pa) (h : Ext m r u pa q) : (∀ i, i < m → q i < m) ∧ (∀ i j, i < m → j < m → q i = q j → i = j) := by
  obtain ⟨p1, p2⟩ := hp
  obtain ⟨h1, h2, h3⟩ := h
  have apart : ∀ i j, i < m - r → m - r ≤ j → j < m → q i ≠ q j := by
    intro i j a b c e
    have e1 := (p1 i a).2
    have e2 := (h2 j b c).2
    rw [← e, h1 i a, e1] at e2
    cases e2
  refine ⟨fun i hi => ?_, fun i j hi hj e => ?_⟩
  · by_cases c : i < m - r
    · rw [h1 i c]
      exact (p1 i c).1
    · exact (h2 i (by omega) hi).1
  · by_cases c : i < m - r
    · by_cases c2 : j < m - r
      · rw [h1 i c, h1 j c2] at e
        exact p2 i j c c2 e
      · exact absurd e (apart i j c (by omega) hj)
    · by_cases c2 : j < m - r
      · exact absurd e.symm (apart j i c2 (by omega) hi)
      · exact h3 i j (by omega) hi (by omega) hj e
theorem Pre_step {m j u d : Nat} {pa : Nat → Nat} (hm8 : m ≤ 8) (hu : u < 256) (hd : d < m) (hb : bt (nI u) d = false) (h : Pre m j u pa) : Pre m (j + 1) (u ||| 2 ^ d) (updn pa j d) := by
  obtain ⟨p1, p2⟩ := h
  have ej : updn pa j d j = d := if_pos rfl
  have eo : ∀ i, i < j → updn pa j d i = pa i := fun i hi => if_neg (by omega)
  have ne : ∀ i, i < j → pa i ≠ d := by
    intro i hi e
    have := (p1 i hi).2
    rw [e, hb] at this
    cases this
  refine ⟨fun i hi => ?_, fun i i2 hi hi2 e => ?_⟩
  · by_cases c : i = j
    · rw [c, ej, bt_or hu (show d < 8 by omega) (show d < 8 by omega), decide_eq_true rfl, Bool.or_true]
      exact ⟨hd, rfl⟩
    · obtain ⟨a, b⟩ := p1 i (by omega)
      rw [eo i (by omega), bt_or hu (show d < 8 by omega) (show pa i < 8 by omega), b, Bool.true_or]
      exact ⟨a, rfl⟩
  · by_cases c : i = j
    · by_cases c2 : i2 = j
      · omega
      · rw [c, ej, eo i2 (by omega)] at e
        exact absurd e.symm (ne i2 (by omega))
    · by_cases c2 : i2 = j
      · rw [c2, ej, eo i (by omega)] at e
        exact absurd e (ne i (by omega))
      · rw [eo i (by omega), eo i2 (by omega)] at e
        exact p2 i i2 (by omega) (by omega) e
def abl (L wi W : Nat → Int32) (u : Nat) : Nat → Bool := fun d => !bt (nI u) d && (ffw L wi (W d)).isSome
theorem wkq_able {W lf wi : Nat → Int32} {m K r u : Nat} {pa q : Nat → Nat} (hK : K ≤ m) (hj : m - r ≤ K) (h : Ext m r u pa q) : wkq W lf wi K q ≤ gwc nsk (fun i => W (pa i)) lf wi (m - r) + cn (abl (gwl nsk (fun i => W (pa i)) lf wi (m - r)) wi W u) m := by
  obtain ⟨h1, h2, h3⟩ := h
  have e1 : gwc nsk (fun i => W (q i)) lf wi (m - r) = gwc nsk (fun i => W (pa i)) lf wi (m - r) := gwc_cong (m - r) (fun i hi => by
    show W (q i) = W (pa i)
    rw [h1 i hi])
  have e2 : gwl nsk (fun i => W (q i)) lf wi (m - r) = gwl nsk (fun i => W (pa i)) lf wi (m - r) := gwl_cong (m - r) (fun i hi => by
    show W (q i) = W (pa i)
    rw [h1 i hi])
  have h4 := gwc_able (we := fun i => W (q i)) (lf := lf) (wi := wi) (m - r) (K - (m - r))
  rw [show m - r + (K - (m - r)) = K by omega, e1, e2] at h4
  have e3 : cn (fun i => (ffw (gwl nsk (fun i => W (pa i)) lf wi (m - r)) wi (W (q (m - r + i)))).isSome) (K - (m - r)) = cn (fun i => abl (gwl nsk (fun i => W (pa i)) lf wi (m - r)) wi W u (q (m - r + i))) (K - (m - r)) := cn_cong _ (fun i hi => by
    show _ = (!bt (nI u) (q (m - r + i)) && _)
    rw [(h2 (m - r + i) (by omega) (by omega)).2]
    rfl)
  have h5 := cn_inj (q := fun i => q (m - r + i)) (m := m) (K - (m - r)) (abl (gwl nsk (fun i => W (pa i)) lf wi (m - r)) wi W u) (fun i hi => (h2 (m - r + i) (by omega) (by omega)).1) (fun i j hi hj e => by
    have := h3 (m - r + i) (m - r + j) (by omega) (by omega) (by omega) (by omega) e
    omega)
  have h6 : cn (fun i => (ffw (gwl nsk (fun i => W (pa i)) lf wi (m - r)) wi ((fun i => W (q i)) (m - r + i))).isSome) (K - (m - r)) = cn (fun i => (ffw (gwl nsk (fun i => W (pa i)) lf wi (m - r)) wi (W (q (m - r + i)))).isSome) (K - (m - r)) := rfl
  unfold wkq
  rw [h6, e3] at h4
  exact Nat.le_trans h4 (Nat.add_le_add_left h5 _)
theorem C_able {m u : Nat} (hm8 : m ≤ 8) (l w we L W wi : Nat → Int32) : F_Har_ableWithout (nI m) (cpf l L 4) (cpf w wi 4) (cpf we W 8) (nI u) = some (nI (cn (abl L wi W u) m)) := by
  unfold F_Har_ableWithout
  refine (wh_forB (fun i => (nI (cn (abl L wi W u) i), nI i)) m (nI (cn (abl L wi W u) m)) 400 (by omega) (fun i hi => ?_) ?_).trans rfl
  · show F_Har_ableWithout_L4 (nI m) (cpf l L 4) (cpf w wi 4) (cpf we W 8) (nI u) (nI (cn (abl L wi W u) i)) (nI i) = some (Sum.inl (nI (cn (abl L wi W u) (i + 1)), nI (i + 1)))
    unfold F_Har_ableWithout_L4
    rw [if_neg (nI_leN hi (by omega)), holds_bt _ (show i < 31 by omega), Option.bind_some, nI_1]
    cases hb : bt (nI u) i with
    | true =>
      have e : abl L wi W u i = false := by
        unfold abl
        rw [hb]
        rfl
      rw [if_neg (by decide), cn_n e]
    | false =>
      rw [if_pos (by decide), ck_nI _ (show i < 8 by omega) (by omega), nI_clamp (show i < 2 ^ 31 by omega), cpf_at (show i < 8 by omega), C_fieldFor, Option.bind_some, ffw_cp]
      cases ef : ffw L wi (W i) with
      | none =>
        have e : abl L wi W u i = false := by
          unfold abl
          rw [hb, ef]
          rfl
        rw [if_pos (show ixO none < 0 by decide), cn_n e]
      | some f =>
        obtain ⟨h4, -, -⟩ := ffw_in ef
        have e : abl L wi W u i = true := by
          unfold abl
          rw [hb, ef]
          rfl
        rw [if_neg (show ¬ ixO (some f) < 0 from nI_ge0 (by omega)), cn_y e, nI_1]
  · show F_Har_ableWithout_L4 (nI m) (cpf l L 4) (cpf w wi 4) (cpf we W 8) (nI u) (nI (cn (abl L wi W u) m)) (nI m) = _
    unfold F_Har_ableWithout_L4
    rw [if_pos (nI_le (Nat.le_refl m) (by omega))]
