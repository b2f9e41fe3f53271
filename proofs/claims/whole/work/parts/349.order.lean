-- order: the search over orders
def fac : Nat → Nat
  | 0 => 1
  | n + 1 => (n + 1) * fac n
theorem fac_pos : ∀ n, 1 ≤ fac n
  | 0 => Nat.le_refl 1
  | n + 1 => by
    have := Nat.mul_le_mul (show 1 ≤ n + 1 by omega) (fac_pos n)
    rw [fac]
    omega
def rnk (u : Nat) : Nat → Nat
  | 0 => 0
  | d + 1 => if bt (nI u) d = true then rnk u d else rnk u d + 1
theorem rnk_y {u d : Nat} (h : bt (nI u) d = true) : rnk u (d + 1) = rnk u d := if_pos h
theorem rnk_n {u d : Nat} (h : bt (nI u) d = false) : rnk u (d + 1) = rnk u d + 1 := by
  rw [rnk, h]
  rfl
theorem rnk_mono (u : Nat) {d : Nat} : ∀ e, rnk u d ≤ rnk u (d + e)
  | 0 => Nat.le_refl _
  | e + 1 => by
    have ih := rnk_mono u (d := d) e
    cases h : bt (nI u) (d + e)
    · rw [← Nat.add_assoc, rnk_n h]
      omega
    · rw [← Nat.add_assoc, rnk_y h]
      exact ih
theorem rnk_lt {u d e : Nat} (h : bt (nI u) d = false) (hde : d < e) : rnk u d < rnk u e := by
  have h1 := rnk_mono u (d := d + 1) (e - (d + 1))
  rw [show d + 1 + (e - (d + 1)) = e by omega, rnk_n h] at h1
  omega
theorem rnk_sur {u t : Nat} : ∀ m, t < rnk u m → ∃ d, d < m ∧ bt (nI u) d = false ∧ rnk u d = t
  | 0, h => absurd h (Nat.not_lt_zero t)
  | m + 1, h => by
    cases hb : bt (nI u) m
    · rw [rnk_n hb] at h
      by_cases c : t = rnk u m
      · exact ⟨m, by omega, hb, c.symm⟩
      · obtain ⟨d, d1, d2⟩ := rnk_sur m (show t < rnk u m by omega)
        exact ⟨d, by omega, d2⟩
    · rw [rnk_y hb] at h
      obtain ⟨d, d1, d2⟩ := rnk_sur m h
      exact ⟨d, by omega, d2⟩
theorem bt_or {u d i : Nat} (hu : u < 256) (hd : d < 8) (hi : i < 8) : bt (nI (u ||| 2 ^ d)) i = (bt (nI u) i || decide (i = d)) := by
  have key : ∀ u : Fin 256, ∀ d i : Fin 8, bt (nI (u.val ||| 2 ^ d.val)) i.val = (bt (nI u.val) i.val || decide (i.val = d.val)) := by decide +kernel
  exact key ⟨u, hu⟩ ⟨d, hd⟩ ⟨i, hi⟩
theorem or_lt {u d : Nat} (hu : u < 256) (hd : d < 8) : u ||| 2 ^ d < 256 := by
  have h2 : 2 ^ d < 2 ^ 8 := Nat.pow_lt_pow_right (by omega) hd
  exact Nat.or_lt_two_pow (n := 8) hu h2
theorem rnk_lo {u d : Nat} (hu : u < 256) (hd : d < 8) : ∀ n, n ≤ d → rnk (u ||| 2 ^ d) n = rnk u n
  | 0, _ => rfl
  | n + 1, h => by
    have e := bt_or hu hd (i := n) (by omega)
    rw [decide_eq_false (show ¬ n = d by omega), Bool.or_false] at e
    rw [rnk, rnk, e, rnk_lo hu hd n (by omega)]
theorem rnk_hi {u d : Nat} (hu : u < 256) (hd : d < 8) (hb : bt (nI u) d = false) : ∀ n, d < n → n ≤ 8 → rnk (u ||| 2 ^ d) n + 1 = rnk u n
  | 0, h, _ => absurd h (by omega)
  | n + 1, h, h8 => by
    have e := bt_or hu hd (i := n) (by omega)
    by_cases c : n = d
    · subst c
      rw [decide_eq_true rfl, Bool.or_true] at e
      rw [rnk_y e, rnk_n hb, rnk_lo hu hd n (Nat.le_refl n)]
    · rw [decide_eq_false c, Bool.or_false] at e
      have ih := rnk_hi hu hd hb n (by omega) (by omega)
      rw [rnk, rnk, e]
      split <;> omega
def updn (pa : Nat → Nat) (j d : Nat) : Nat → Nat := fun i => if i = j then d else pa i
def gS (wk : (Nat → Nat) → Nat) (q : Nat → Nat) (S : Nat × (Nat → Nat)) : Nat × (Nat → Nat) := if S.1 ≤ wk q then (wk q + 1, q) else S
def odL (f : Nat → Nat × (Nat → Nat) → Nat × (Nat → Nat)) (u : Nat) : Nat → Nat × (Nat → Nat) → Nat × (Nat → Nat)
  | 0, S => S
  | d + 1, S => if bt (nI u) d = true then odL f u d S else f d (odL f u d S)
def odE (wk : (Nat → Nat) → Nat) (m : Nat) : Nat → Nat → (Nat → Nat) → Nat × (Nat → Nat) → Nat × (Nat → Nat)
  | 0, _, pa, S => gS wk pa S
  | r + 1, u, pa, S => odL (fun d S => odE wk m r (u ||| 2 ^ d) (updn pa (m - (r + 1)) d) S) u m S
theorem odE_skip {wk : (Nat → Nat) → Nat} {m : Nat} : ∀ r u pa S, r ≤ m → (∀ q, (∀ i, i < m - r → q i = pa i) → wk q < S.1) → odE wk m r u pa S = S
  | 0, u, pa, S, _, h => by
    have h1 := h pa (fun i _ => rfl)
    rw [odE, gS, if_neg (by omega)]
  | r + 1, u, pa, S, hr, h => by
    have key : ∀ d, odL (fun d S => odE wk m r (u ||| 2 ^ d) (updn pa (m - (r + 1)) d) S) u d S = S := by
      intro d
      induction d with
      | zero => rfl
      | succ d ih =>
        rw [odL, ih]
        split
        · rfl
        · refine odE_skip r _ _ S (by omega) (fun q hq => h q (fun i hi => ?_))
          rw [hq i (by omega), updn, if_neg (by omega)]
    rw [odE, key]
theorem odE_asc {wk : (Nat → Nat) → Nat} {m w : Nat} (hm8 : m ≤ 8) : ∀ r u pa S, r ≤ m → u < 256 → rnk u m = r → (∀ q, (∀ i, i < m - r → q i = pa i) → wk q = w) → S.1 ≤ w → ∃ q, odE wk m r u pa S = (w + 1, q) ∧ (∀ i, i < m - r → q i = pa i) ∧ ∀ d, d < m → bt (nI u) d = false → q (m - r + rnk u d) = d
  | 0, u, pa, S, _, hu, hk, h, hS => by
    refine ⟨pa, ?_, fun i _ => rfl, fun d hd hb => ?_⟩
    · rw [odE, gS, h pa (fun i _ => rfl), if_pos hS]
    · have := rnk_lt hb hd
      omega
  | r + 1, u, pa, S, hr, hu, hk, h, hS => by
    obtain ⟨d0, a1, a2, a3⟩ := rnk_sur (u := u) (t := 0) m (by omega)
    have hk2 : rnk (u ||| 2 ^ d0) m = r := by
      have := rnk_hi hu (show d0 < 8 by omega) a2 m a1 hm8
      omega
    have hwk : ∀ d q, (∀ i, i < m - r → q i = updn pa (m - (r + 1)) d i) → wk q = w := by
      intro d q hq
      refine h q (fun i hi => ?_)
      rw [hq i (by omega), updn, if_neg (by omega)]
    obtain ⟨q, q1, q2, q3⟩ := odE_asc hm8 r (u ||| 2 ^ d0) (updn pa (m - (r + 1)) d0) S (by omega) (or_lt hu (by omega)) hk2 (hwk d0) hS
    have lo : ∀ d, d ≤ d0 → odL (fun d S => odE wk m r (u ||| 2 ^ d) (updn pa (m - (r + 1)) d) S) u d S = S := by
      intro d
      induction d with
      | zero => intro _; rfl
      | succ d ih =>
        intro hd
        cases hb : bt (nI u) d
        · have := rnk_lt hb (show d < d0 by omega)
          omega
        · rw [odL, if_pos hb]
          exact ih (by omega)
    have hi : ∀ e, odL (fun d S => odE wk m r (u ||| 2 ^ d) (updn pa (m - (r + 1)) d) S) u (d0 + 1 + e) S = (w + 1, q) := by
      intro e
      induction e with
      | zero =>
        rw [Nat.add_zero, odL, lo d0 (Nat.le_refl d0), if_neg (by rw [a2]; decide)]
        exact q1
      | succ e ih =>
        rw [← Nat.add_assoc, odL, ih]
        split
        · rfl
        · refine odE_skip r _ _ _ (by omega) (fun q' hq' => ?_)
          rw [hwk _ q' hq']
          exact Nat.lt_succ_self w
    refine ⟨q, ?_, fun i hi => ?_, fun d hd hb => ?_⟩
    · have := hi (m - (d0 + 1))
      rw [show d0 + 1 + (m - (d0 + 1)) = m by omega] at this
      exact this
    · rw [q2 i (by omega), updn, if_neg (by omega)]
    · by_cases c : d = d0
      · subst c
        rw [a3, Nat.add_zero, q2 _ (by omega), updn, if_pos rfl]
      · have hlt : d0 < d := by
          apply Decidable.byContradiction
          intro c2
          have := rnk_lt hb (show d < d0 by omega)
          omega
        have e1 := bt_or hu (show d0 < 8 by omega) (i := d) (by omega)
        rw [hb, decide_eq_false c] at e1
        have e2 := q3 d hd e1
        have e3 := rnk_hi hu (show d0 < 8 by omega) a2 d hlt (by omega)
        rw [show m - (r + 1) + rnk u d = m - r + rnk (u ||| 2 ^ d0) d by omega]
        exact e2
-- the orders by their numbers
def selR (u q : Nat) : Nat → Nat
  | 0 => 0
  | n + 1 => if bt (nI u) n = false ∧ rnk u n = q then n else selR u q n
theorem selR_eq {u d : Nat} (hb : bt (nI u) d = false) : ∀ n, d < n → selR u (rnk u d) n = d
  | 0, h => absurd h (by omega)
  | n + 1, h => by
    rw [selR]
    by_cases c : n = d
    · subst c
      rw [if_pos ⟨hb, rfl⟩]
    · have := rnk_lt hb (show d < n by omega)
      rw [if_neg (fun e => by omega)]
      exact selR_eq hb n (by omega)
def lay (m : Nat) : Nat → Nat → Nat → (Nat → Nat) → (Nat → Nat)
  | 0, _, _, pa => pa
  | r + 1, u, c, pa => lay m r (u ||| 2 ^ selR u (c / fac r) 8) (c % fac r) (updn pa (m - (r + 1)) (selR u (c / fac r) 8))
def scn (f : Nat → Nat × (Nat → Nat) → Nat × (Nat → Nat)) : Nat → Nat × (Nat → Nat) → Nat × (Nat → Nat)
  | 0, S => S
  | n + 1, S => f n (scn f n S)
theorem scn_add (f : Nat → Nat × (Nat → Nat) → Nat × (Nat → Nat)) (a : Nat) (S : Nat × (Nat → Nat)) : ∀ b, scn f (a + b) S = scn (fun c => f (a + c)) b (scn f a S)
  | 0 => rfl
  | b + 1 => by
    rw [← Nat.add_assoc, scn, scn, scn_add f a S b]
theorem scn_cong {f g : Nat → Nat × (Nat → Nat) → Nat × (Nat → Nat)} (S : Nat × (Nat → Nat)) : ∀ n, (∀ c, c < n → f c = g c) → scn f n S = scn g n S
  | 0, _ => rfl
  | n + 1, h => by
    rw [scn, scn, h n (by omega), scn_cong S n (fun c hc => h c (by omega))]
theorem scn_odE {wk : (Nat → Nat) → Nat} {m : Nat} (hm8 : m ≤ 8) : ∀ r u pa S, r ≤ m → u < 256 → rnk u m = r → scn (fun c => gS wk (lay m r u c pa)) (fac r) S = odE wk m r u pa S
  | 0, u, pa, S, _, _, _ => rfl
  | r + 1, u, pa, S, hr, hu, hk => by
    have key : ∀ d, d ≤ m → scn (fun c => gS wk (lay m (r + 1) u c pa)) (rnk u d * fac r) S = odL (fun d S => odE wk m r (u ||| 2 ^ d) (updn pa (m - (r + 1)) d) S) u d S := by
      intro d
      induction d with
      | zero =>
        intro _
        rw [rnk, Nat.zero_mul]
        rfl
      | succ d ih =>
        intro hd
        cases hb : bt (nI u) d
        · have hk2 : rnk (u ||| 2 ^ d) m = r := by
            have := rnk_hi hu (show d < 8 by omega) hb m (by omega) hm8
            omega
          rw [rnk_n hb, Nat.succ_mul, scn_add, ih (by omega), odL, if_neg (by rw [hb]; decide), ← scn_odE hm8 r (u ||| 2 ^ d) (updn pa (m - (r + 1)) d) _ (by omega) (or_lt hu (by omega)) hk2]
          refine scn_cong _ _ (fun c hc => ?_)
          have f1 := fac_pos r
          have e1 : (rnk u d * fac r + c) / fac r = rnk u d := by
            rw [Nat.mul_comm, Nat.mul_add_div (by omega), Nat.div_eq_of_lt hc, Nat.add_zero]
          have e2 : (rnk u d * fac r + c) % fac r = c := by
            rw [Nat.mul_comm, Nat.mul_add_mod, Nat.mod_eq_of_lt hc]
          rw [lay, e1, e2, selR_eq hb 8 (by omega)]
        · rw [rnk_y hb, odL, if_pos hb]
          exact ih (by omega)
    have h := key m (Nat.le_refl m)
    rw [hk] at h
    rw [fac, odE, h]
theorem gS_pos (wk : (Nat → Nat) → Nat) (q : Nat → Nat) (S : Nat × (Nat → Nat)) : 1 ≤ (gS wk q S).1 := by
  unfold gS
  split
  · exact Nat.succ_le_succ (Nat.zero_le _)
  · omega
