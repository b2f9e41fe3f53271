-- BASE: a loop, checked reading, the bundle of what holds in a method, the worlds, contracts, rows
def wh {σ ρ : Type} (step : σ → Option (σ ⊕ ρ)) : Nat → σ → Option ρ
  | 0, _ => none
  | n + 1, s => match step s with
    | none => none
    | some (.inl s') => wh step n s'
    | some (.inr r) => some r
theorem wh_s {σ ρ : Type} {step : σ → Option (σ ⊕ ρ)} {n : Nat} {s : σ} {x : ρ} (h : wh step (n + 1) s = some x) : ∃ z, step s = some z ∧ ((∀ s', z = .inl s' → wh step n s' = some x) ∧ (∀ r, z = .inr r → r = x)) := by
  unfold wh at h
  split at h
  · cases h
  · rename_i s' hs
    refine ⟨_, hs, ?_, ?_⟩
    · intro q e
      cases e
      exact h
    · intro q e
      cases e
  · rename_i r hs
    refine ⟨_, hs, ?_, ?_⟩
    · intro q e
      cases e
    · intro q e
      cases e
      exact Option.some.inj h
theorem ob {α β : Type} {x : Option α} {f : α → Option β} {b : β} (h : x.bind f = some b) : ∃ a, x = some a ∧ f a = some b := Option.bind_eq_some_iff.mp h
theorem ip {c : Prop} [inst : Decidable c] {α : Type} {A B : α} {x : α} (h : c) (e : (if c then A else B) = x) : A = x := by rw [if_pos h] at e; exact e
theorem iN {c : Prop} [inst : Decidable c] {α : Type} {A B : α} {x : α} (h : ¬ c) (e : (if c then A else B) = x) : B = x := by rw [if_neg h] at e; exact e
theorem wh_0 {σ ρ : Type} {step : σ → Option (σ ⊕ ρ)} {s : σ} {x : ρ} : ¬ wh step 0 s = some x := fun h => by cases h
def sx {α β γ : Type} (f : α → γ) (g : β → γ) : α ⊕ β → γ
  | .inl a => f a
  | .inr b => g b
theorem sx_l {α β γ : Type} {f : α → γ} {g : β → γ} {e : α ⊕ β} {a : α} {t : γ} (h : e = .inl a) (k : sx f g e = t) : f a = t := by rw [h] at k; exact k
theorem sx_r {α β γ : Type} {f : α → γ} {g : β → γ} {e : α ⊕ β} {b : β} {t : γ} (h : e = .inr b) (k : sx f g e = t) : g b = t := by rw [h] at k; exact k
theorem vp_inC (i : Int32) (n : Nat) (h : (!decide (i < 0) && decide (i.toNatClampNeg < n)) = true) : vp_in i n := by
  simp only [Bool.and_eq_true, Bool.not_eq_true', decide_eq_false_iff_not, decide_eq_true_eq] at h
  rintro (h1 | h1)
  · exact h.1 h1
  · omega
theorem tab_out {hi : Int} {x : Int32} (lo : Int) (ks : List Int32) (hk : ((List.range (hi - lo + 1).toNat).all fun i => (ks.map Int32.toInt).contains (lo + (i : Int))) = true) (h : ∀ k ∈ ks, ¬ x = k) : x.toInt < lo ∨ hi < x.toInt := by
  by_cases h1 : x.toInt < lo
  · exact Or.inl h1
  by_cases h2 : hi < x.toInt
  · exact Or.inr h2
  exfalso
  have h3 := List.all_eq_true.mp hk (x.toInt - lo).toNat (List.mem_range.mpr (by omega))
  rw [List.contains_iff_mem] at h3
  obtain ⟨k, hk1, hk2⟩ := List.mem_map.mp h3
  refine h k hk1 (Int32.toInt_inj.mp ?_)
  rw [hk2]
  omega
theorem look_out {dflt : Int} {x : Int32} (ps : List (Int × Int)) (ks : List Int32) (hk : (ps.all fun q => (ks.map Int32.toInt).contains q.1) = true) (h : ∀ k ∈ ks, ¬ x = k) : Op.lookupswitch.offset ps dflt x.toInt = dflt := by
  induction ps with
  | nil => rfl
  | cons q r ih =>
    obtain ⟨a, o⟩ := q
    rw [List.all_cons, Bool.and_eq_true] at hk
    rw [Op.lookupswitch.offset_cons, if_neg, ih hk.2]
    intro e
    have h3 := hk.1
    rw [List.contains_iff_mem] at h3
    obtain ⟨k, hk1, hk2⟩ := List.mem_map.mp h3
    exact h k hk1 (Int32.toInt_inj.mp (by rw [hk2]; exact e.symm))
def ck {α : Type} (i : Int32) (n : Nat) (k : Option α) : Option α := if i < 0 ∨ n ≤ i.toNatClampNeg then none else k
theorem ck_some {α : Type} {i : Int32} {n : Nat} {k : Option α} {r : α} (h : ck i n k = some r) : vp_in i n ∧ k = some r := by
  unfold ck at h
  by_cases c : i < 0 ∨ n ≤ i.toNatClampNeg
  · rw [if_pos c] at h; cases h
  · rw [if_neg c] at h; exact ⟨c, h⟩
theorem ck_in {α : Type} {i : Int32} {n : Nat} {k : Option α} (h : vp_in i n) : ck i n k = k := if_neg h
def ck0 {α : Type} (y : Int32) (k : Option α) : Option α := if y = 0 then none else k
theorem ck0_some {α : Type} {y : Int32} {k : Option α} {r : α} (h : ck0 y k = some r) : ¬ y = 0 ∧ k = some r := by
  unfold ck0 at h
  by_cases c : y = 0
  · rw [if_pos c] at h; cases h
  · rw [if_neg c] at h; exact ⟨c, h⟩
def ck0L {α : Type} (y : Int64) (k : Option α) : Option α := if y = 0 then none else k
theorem ck0L_some {α : Type} {y : Int64} {k : Option α} {r : α} (h : ck0L y k = some r) : ¬ y = 0 ∧ k = some r := by
  unfold ck0L at h
  by_cases c : y = 0
  · rw [if_pos c] at h; cases h
  · rw [if_neg c] at h; exact ⟨c, h⟩
def ckz {α : Type} (x : Int32) (k : Option α) : Option α := if x = 0 ∨ x = 1 then k else none
theorem nar0 : narrow .boolean (.int 0) = .int 0 := by decide +kernel
theorem nar1 : narrow .boolean (.int 1) = .int 1 := by decide +kernel
theorem ckz_some {α : Type} {x : Int32} {k : Option α} {r : α} (h : ckz x k = some r) : narrow .boolean (.int x) = .int x ∧ fits .boolean (.int x) = true ∧ k = some r := by
  unfold ckz at h
  by_cases c : x = 0 ∨ x = 1
  · rw [if_pos c] at h
    rcases c with rfl | rfl
    · exact ⟨nar0, by decide +kernel, h⟩
    · exact ⟨nar1, by decide +kernel, h⟩
  · rw [if_neg c] at h; cases h
def ckN {α : Type} (j : Nat) (k : Option α) : Option α := if j < 8 then k else none
theorem ckN_some {α : Type} {j : Nat} {k : Option α} {r : α} (h : ckN j k = some r) : j < 8 ∧ k = some r := by
  unfold ckN at h
  by_cases c : j < 8
  · rw [if_pos c] at h; exact ⟨c, h⟩
  · rw [if_neg c] at h; cases h
theorem at8 {P : Nat → Prop} {j : Nat} (h : j < 8) (h0 : P 0) (h1 : P 1) (h2 : P 2) (h3 : P 3) (h4 : P 4) (h5 : P 5) (h6 : P 6) (h7 : P 7) : P j := by
  match j, h with
  | 0, _ => exact h0
  | 1, _ => exact h1
  | 2, _ => exact h2
  | 3, _ => exact h3
  | 4, _ => exact h4
  | 5, _ => exact h5
  | 6, _ => exact h6
  | 7, _ => exact h7
  | k + 8, h => exact absurd h (by omega)
theorem up_sa (sa σ : Nat → Nat) (k j : Nat) : va_up (fun i => some (sa (σ i))) k (some (sa j)) = fun i => some (sa (va_up σ k j i)) := by
  funext i
  unfold va_up
  by_cases h : i = k
  · simp [h]
  · simp [h]
def kTy (cI cS : ClassId) : List (ClassId × FieldType) := [(cI, .int), (cS, .object "HamperByWeather$Step")]
def rmd (d : Nat) : Room := { frames := d, cells := 0, slots := 0, locals := 60 * d }
theorem goodT {cw cw' : Cond} (h : cw' ∈ lw_g) : GoodIn (cw :: lw_g) (cw' :: lw_g) := by
  intro w hw
  have hw' : w ∈ lw_g := by
    rcases List.mem_cons.mp hw with rfl | h1
    · exact h
    · exact h1
  exact ⟨List.mem_cons_of_mem _ hw', good_of_word (List.mem_filter.mp hw').2⟩
/-- the words of private members of nest mates, and of the array of Steps: they stay true, but are told of the state -/
def isNest : Cond → Bool
  | .fieldLinkNest .. => true
  | .methodLinkNest .. => true
  | _ => false
def kN (U : State) : Prop := (∀ w ∈ lw_tbl, isNest w = true → va_Nw w U) ∧ va_AO "HamperByWeather$Step" U
theorem isNest_tab {w : Cond} (h : isNest w = true) : w.onTables = true := by cases w <;> first | rfl | (simp [isNest] at h)
theorem kN.same {u U : State} (h : u.vm = U.vm) (hn : kN u) : kN U := ⟨fun w hw h1 => va_Nw.same (isNest_tab h1) h (hn.1 w hw h1), hn.2.moved (by rw [h]; exact Vm.Alike.refl _)⟩
theorem kN.warm {s U : State} (hW : s.WarmedH U.vm) (hn : kN s) : kN U := by
  refine ⟨fun w hw h1 => ?_, hn.2.moved hW.alike⟩
  have h2 := hn.1 w hw h1
  cases w <;> first | exact va_Nw.warmF hW h2 | exact va_Nw.warmM hW h2 | (simp [isNest] at h1)
/-- what stays fixed in a method -/
def cx (p : Program) (s : State) (m : MethodId) (args : Array Value) (meth : Method) (c : Code) (cc : ByteArray) (nL : Nat) (own : String) (D : va_G) (tys : List (ClassId × FieldType)) (cw : Cond) : Prop :=
  p.tables.exec = Jvm.exec ∧ c.code = cc ∧ c.maxLocals = nL ∧ s.vm.findClass own = some m.cls ∧ (∀ w ∈ cw :: lw_g, w.before args s = true) ∧ va_K D classes tys s ∧ meth.locks = false ∧ kN s
def wd (A : Nat → Prop) (H0 : Heap) (D : va_G) (ws : va_W) (H : Heap) (locs : List Loc) : Prop := va_P D classes ws H ∧ va_D A ws ∧ va_S A H0 H locs
def kPre (D : va_G) (tys : List (ClassId × FieldType)) (w0 : va_W) (sz : Nat) : State → Prop := fun U => U.heap.size = sz ∧ va_P D classes w0 U.heap ∧ va_K D classes tys U ∧ kN U ∧ va_D (fun _ => True) w0
theorem kPre_blind (av : List Value) (D : va_G) (tys : List (ClassId × FieldType)) (w0 : va_W) (sz : Nat) : FrameBlind (va_Pc av (kPre D tys w0 sz)) := fun a U g mk q => by
  obtain ⟨q0, q1, qP, qK, qN, qD⟩ := q
  exact ⟨q0, q1, qP, va_K.moved (u := U) (U := U.calling g mk a) (Vm.Alike.refl U.vm) qK, kN.same (u := U) (U := U.calling g mk a) rfl qN, qD⟩
def qI (D : va_G) (w1 : va_W) (r : Int32) (A : Nat → Prop) : Array Value → State → Outcome → State → Prop := va_Qi (fun (r' : Int32) (_ : Unit) => r' = r) (fun _ t => va_P D classes w1 t.heap) A
def qL (D : va_G) (w1 : va_W) (r : Int64) (A : Nat → Prop) : Array Value → State → Outcome → State → Prop := va_Ql (fun (r' : Int64) (_ : Unit) => r' = r) (fun _ t => va_P D classes w1 t.heap) A
def qV (D : va_G) (w1 : va_W) (A : Nat → Prop) : Array Value → State → Outcome → State → Prop := va_Qv (fun (_ : Unit) => True) (fun _ t => va_P D classes w1 t.heap) A
def qR (D : va_G) (w1 : va_W) (r : Nat) (A : Nat → Prop) : Array Value → State → Outcome → State → Prop := va_Qr (fun (_ : Unit) => True) (fun _ a t => a = r ∧ va_P D classes w1 t.heap) A
/-- contracts: from the world w0 to the world w1, the answer r -/
def ctI (l : Launch) (y : MethodName) (cw : Cond) (rm : Room) (D : va_G) (tys : List (ClassId × FieldType)) (av : List Value) (w0 w1 : va_W) (r : Int32) : Prop := w1.map Prod.fst = w0.map Prod.fst ∧ ∀ sz : Nat, Met l y (cw :: lw_g) rm (va_Pc av (kPre D tys w0 sz)) (qI D w1 r (va_A w0 sz)) 0 0 (va_A w0 sz)
def ctL (l : Launch) (y : MethodName) (cw : Cond) (rm : Room) (D : va_G) (tys : List (ClassId × FieldType)) (av : List Value) (w0 w1 : va_W) (r : Int64) : Prop := w1.map Prod.fst = w0.map Prod.fst ∧ ∀ sz : Nat, Met l y (cw :: lw_g) rm (va_Pc av (kPre D tys w0 sz)) (qL D w1 r (va_A w0 sz)) 0 0 (va_A w0 sz)
def ctV (l : Launch) (y : MethodName) (cw : Cond) (rm : Room) (D : va_G) (tys : List (ClassId × FieldType)) (av : List Value) (w0 w1 : va_W) : Prop := w1.map Prod.fst = w0.map Prod.fst ∧ ∀ sz : Nat, Met l y (cw :: lw_g) rm (va_Pc av (kPre D tys w0 sz)) (qV D w1 (va_A w0 sz)) 0 0 (va_A w0 sz)
def ctR (l : Launch) (y : MethodName) (cw : Cond) (rm : Room) (D : va_G) (tys : List (ClassId × FieldType)) (av : List Value) (w0 w1 : va_W) (r : Nat) : Prop := w1.map Prod.fst = w0.map Prod.fst ∧ ∀ sz : Nat, Met l y (cw :: lw_g) rm (va_Pc av (kPre D tys w0 sz)) (qR D w1 r (va_A w0 sz)) 0 0 (va_A w0 sz)
/-- a contract from a walk -/
theorem ct_of {l : Launch} {y : MethodName} {cc : ByteArray} {maxL : Nat} {ret : Option FieldType} {rm : Room} {D : va_G} {tys : List (ClassId × FieldType)} {av : List Value} {w0 : va_W} {Qc : (Nat → Prop) → Array Value → State → Outcome → State → Prop} (hy : plainName y.cls = true) (hlen : (lg_sl av).length ≤ maxL)
    (body : ∀ (p : Program) (e : Env) (s : State) (m : MethodId) (below : List Frame) (meth : Method) (c : Code) (A : Nat → Prop), (∀ q, s.heap.size ≤ q → A q) → cx p s m av.toArray meth c cc maxL y.cls D tys (Cond.code y cc maxL ret) → meth.sig.returnType = ret → ∀ ls : Array Slot, lv_has ls maxL (lv_args 0 av) → wd A s.heap D w0 s.heap [] →
      W p l e rm s m av.toArray below meth c s.heap [] 0 0 (MQ below (Qc A) av.toArray s 0 0 A) (F0 m 0 ls [])) (sz : Nat) : Met l y (Cond.code y cc maxL ret :: lw_g) rm (va_Pc av (kPre D tys w0 sz)) (Qc (va_A w0 sz)) 0 0 (va_A w0 sz) := by
  refine Met.ofW (cc := cc) (maxL := maxL) (ret := ret) hy rfl ?_
  intro p e s m args below meth c s₁ B hml hv
  obtain ⟨rfl, hsz, hP, hK, hN, hD0⟩ := hv
  subst hsz
  have hl := lv_entry av (n := maxL) hlen
  rw [lg_entry_eq]
  exact body p e s m below meth c _ (fun q h => Or.inr h) ⟨B.exec, B.bytes, hml, findClass_of_methodNamed B.named, atoms_spec (ws := Cond.code y cc maxL ret :: lw_g) B.pre, hK, B.notSynchronized, hN⟩ B.returns _ hl ⟨hP, hD0.self, va_S.rf⟩
/-- entries of a world put in at places -/
def kSel : List Nat → va_W → Nat → Nat × va_E → Nat × va_E
  | i :: is, x :: xs, k, q => match Nat.beq k i with
    | true => x
    | false => kSel is xs k q
  | _, _, _, q => q
def kPutF (is : List Nat) (w1 : va_W) : Nat → va_W → va_W
  | _, [] => []
  | k, q :: qs => kSel is w1 k q :: kPutF is w1 (k + 1) qs
def kPut (ws : va_W) (is : List Nat) (w1 : va_W) : va_W := kPutF is w1 0 ws
theorem kSel_spec : ∀ (is : List Nat) (w1 : va_W) (k : Nat) (q : Nat × va_E), is.length = w1.length → (∃ (j : Nat) (x : Nat × va_E), is[j]? = some k ∧ w1[j]? = some x ∧ kSel is w1 k q = x) ∨ (k ∉ is ∧ kSel is w1 k q = q)
  | [], w1, k, q, _ => Or.inr ⟨by simp, by cases w1 <;> rfl⟩
  | i :: is, [], k, q, h => by simp at h
  | i :: is, x :: xs, k, q, h => by
    by_cases hk : k = i
    · subst hk
      exact Or.inl ⟨0, x, rfl, rfl, by simp [kSel]⟩
    · have e : kSel (i :: is) (x :: xs) k q = kSel is xs k q := by
        have hb : Nat.beq k i = false := by
          cases hz : Nat.beq k i with
          | true => exact absurd (Nat.eq_of_beq_eq_true hz) hk
          | false => rfl
        simp only [kSel, hb]
      rcases kSel_spec is xs k q (by simpa using h) with ⟨j, z, h1, h2, h3⟩ | ⟨h1, h2⟩
      · exact Or.inl ⟨j + 1, z, h1, h2, by rw [e]; exact h3⟩
      · exact Or.inr ⟨by simp [hk, h1], by rw [e]; exact h2⟩
theorem kPutF_get (is : List Nat) (w1 : va_W) : ∀ (ws : va_W) (n k : Nat), (kPutF is w1 n ws)[k]? = (ws[k]?).map (kSel is w1 (n + k))
  | [], n, k => by simp [kPutF]
  | q :: qs, n, 0 => rfl
  | q :: qs, n, k + 1 => by
    show (kPutF is w1 (n + 1) qs)[k]? = _
    rw [kPutF_get is w1 qs (n + 1) k, show n + 1 + k = n + (k + 1) by omega]
    rfl
theorem kPut_get (is : List Nat) (w1 ws : va_W) (k : Nat) : (kPut ws is w1)[k]? = (ws[k]?).map (kSel is w1 k) := by
  unfold kPut
  rw [kPutF_get, Nat.zero_add]
theorem kPut_at {is : List Nat} {w0 ws : va_W} (hC : is.map (fun i => ws[i]?) = w0.map some) {j k : Nat} (h : is[j]? = some k) : ∃ x, w0[j]? = some x ∧ ws[k]? = some x := by
  have h1 : (is.map (fun i => ws[i]?))[j]? = some (ws[k]?) := by rw [List.getElem?_map, h]; rfl
  rw [hC, List.getElem?_map] at h1
  cases h2 : w0[j]? with
  | none => rw [h2] at h1; cases h1
  | some x => rw [h2] at h1; exact ⟨x, rfl, (Option.some.inj h1).symm⟩
theorem kPut_P {D : va_G} {H : Heap} (is : List Nat) (w1 ws : va_W) (h1 : ∀ (j : Nat) (x : Nat × va_E), w1[j]? = some x → va_at D classes x H) (h2 : ∀ (k : Nat) (q : Nat × va_E), ws[k]? = some q → k ∉ is → va_at D classes q H) (h3 : is.length = w1.length) : va_P D classes (kPut ws is w1) H := by
  intro k q hq
  rw [kPut_get] at hq
  cases h4 : ws[k]? with
  | none => rw [h4] at hq; cases hq
  | some q0 =>
    rw [h4] at hq
    have hq := Option.some.inj hq
    rcases kSel_spec is w1 k q0 h3 with ⟨j, z, g1, g2, g3⟩ | ⟨g1, g2⟩
    · rw [← hq, g3]; exact h1 j z g2
    · rw [← hq, g2]; exact h2 k q0 h4 g1
theorem kPut_same (is : List Nat) (w0 ws : va_W) (hC : is.map (fun i => ws[i]?) = w0.map some) : kPut ws is w0 = ws := by
  have hl : is.length = w0.length := by simpa using congrArg List.length hC
  apply List.ext_getElem?
  intro k
  rw [kPut_get]
  cases h4 : ws[k]? with
  | none => rfl
  | some q0 =>
    show some (kSel is w0 k q0) = some q0
    rcases kSel_spec is w0 k q0 hl with ⟨j, z, g1, g2, g3⟩ | ⟨g1, g2⟩
    · obtain ⟨x, e1, e2⟩ := kPut_at hC g1
      rw [g3]
      rw [g2] at e1
      rw [h4] at e2
      exact e1.trans e2.symm
    · rw [g2]
theorem kPut_fst (is : List Nat) (w1 w0 ws : va_W) (hC : is.map (fun i => ws[i]?) = w0.map some) (he : w1.map Prod.fst = w0.map Prod.fst) : (kPut ws is w1).map Prod.fst = ws.map Prod.fst := by
  have hl : is.length = w0.length := by simpa using congrArg List.length hC
  have hl2 : w1.length = w0.length := by simpa using congrArg List.length he
  apply List.ext_getElem?
  intro k
  rw [List.getElem?_map, List.getElem?_map, kPut_get]
  cases h4 : ws[k]? with
  | none => rfl
  | some q0 =>
    show some (kSel is w1 k q0).1 = some q0.1
    rcases kSel_spec is w1 k q0 (by omega) with ⟨j, z, g1, g2, g3⟩ | ⟨g1, g2⟩
    · obtain ⟨x, e1, e2⟩ := kPut_at hC g1
      rw [g3]
      rw [h4] at e2
      have h5 : (w1.map Prod.fst)[j]? = (w0.map Prod.fst)[j]? := by rw [he]
      rw [List.getElem?_map, List.getElem?_map, g2, e1] at h5
      rw [Option.some.inj e2]
      exact h5
    · rw [g2]
theorem va_D.fst {A : Nat → Prop} {w1 w0 : va_W} (h : va_D A w0) (e : w1.map Prod.fst = w0.map Prod.fst) : va_D A w1 := by
  have key : ∀ (k : Nat) (q : Nat × va_E), w1[k]? = some q → ∃ q0, w0[k]? = some q0 ∧ q0.1 = q.1 := by
    intro k q hq
    have h5 : (w1.map Prod.fst)[k]? = (w0.map Prod.fst)[k]? := by rw [e]
    rw [List.getElem?_map, List.getElem?_map, hq] at h5
    cases h6 : w0[k]? with
    | none => rw [h6] at h5; cases h5
    | some q0 => rw [h6] at h5; exact ⟨q0, rfl, (Option.some.inj h5).symm⟩
  refine ⟨fun i j x y hi hj hxy => ?_, fun k q hq => ?_⟩
  · obtain ⟨x0, a1, a2⟩ := key i x hi
    obtain ⟨y0, b1, b2⟩ := key j y hj
    exact h.1 i j x0 y0 a1 b1 (a2.trans (hxy.trans b2.symm))
  · obtain ⟨q0, a1, a2⟩ := key k q hq
    rw [← a2]
    exact h.2 k q0 a1
theorem wd_call {A : Nat → Prop} {H0 H H1 : Heap} {D : va_G} {ws w0 w1 : va_W} {locs locs1 : List Loc} (hW : wd A H0 D ws H locs) (is : List Nat) (hC : is.map (fun i => ws[i]?) = w0.map some) (he : w1.map Prod.fst = w0.map Prod.fst) (hP1 : va_P D classes w1 H1) (hk : ∀ q : Nat, q < H.size → ¬ va_A w0 H.size q → H1[q]? = H[q]?) (hS : va_S A H0 H1 locs1) : wd A H0 D (kPut ws is w1) H1 locs1 := by
  obtain ⟨hP, hD, -⟩ := hW
  have hl1 : is.length = w0.length := by simpa using congrArg List.length hC
  have hl2 : w1.length = w0.length := by simpa using congrArg List.length he
  refine ⟨kPut_P is w1 ws (fun j x hx => hP1 j x hx) (fun k q hq hk0 => ?_) (by omega), hD.fst (kPut_fst is w1 w0 ws hC he), hS⟩
  have hlt := (hP k q hq).lt
  refine (hP k q hq).kept (hk q.1 hlt ?_)
  rintro (⟨j, e, h⟩ | h)
  · have h1 : (is.map (fun i => ws[i]?))[j]? = some (some (q.1, e)) := by rw [hC, List.getElem?_map, h]; rfl
    rw [List.getElem?_map] at h1
    cases hi : is[j]? with
    | none => rw [hi] at h1; cases h1
    | some i =>
      rw [hi] at h1
      have h2 : ws[i]? = some (q.1, e) := Option.some.inj h1
      have hik := hD.1 k i q (q.1, e) hq h2 rfl
      subst hik
      exact hk0 (List.mem_of_getElem? hi)
  · omega
theorem wd_free {A : Nat → Prop} {H0 H : Heap} {D : va_G} {ws w0 : va_W} {locs : List Loc} (hW : wd A H0 D ws H locs) (hA : ∀ q, H0.size ≤ q → A q) (is : List Nat) (hC : is.map (fun i => ws[i]?) = w0.map some) : ∀ q, va_A w0 H.size q → A q := va_free hW.2.1 hW.2.2 hA is hC
theorem wd_cut {A : Nat → Prop} {H0 H : Heap} {D : va_G} {ws w0 : va_W} {locs : List Loc} (hW : wd A H0 D ws H locs) (is : List Nat) (hC : is.map (fun i => ws[i]?) = w0.map some) (hn : va_nd is = true) : va_P D classes w0 H ∧ va_D (fun _ => True) w0 := by
  have e : is.filterMap (fun i => ws[i]?) = w0 := by
    have h1 : (is.map (fun i => ws[i]?)).filterMap id = w0 := by rw [hC]; simp [List.filterMap_map]
    rw [List.filterMap_map] at h1
    exact h1
  exact ⟨hW.1.sub is e, (hW.2.1.sub is hn hC).weaken (fun _ _ _ _ => trivial)⟩
theorem ac_n : Cond.native arraycopyName ∈ lw_g := q_at (i := 338) (by decide +kernel) rfl
theorem ac_s : Cond.static arraycopyName ∈ lw_g := q_at (i := 337) (by decide +kernel) rfl
theorem ac_i : Cond.initialized "java/lang/System" ∈ lw_g := q_at (i := 58) (by decide +kernel) rfl
theorem jm_i : Cond.initialized "java/lang/Math" ∈ lw_g := q_at (i := 60) (by decide +kernel) rfl
theorem jm_max_s : Cond.static Lib.Math.max.name ∈ lw_g := q_at (i := 476) (by decide +kernel) rfl
theorem jm_max_c : Cond.code Lib.Math.max.name Lib.Math.max.code 2 (some .int) ∈ lw_g := q_at (i := 477) (by decide +kernel) rfl
theorem jm_min_s : Cond.static Lib.Math.min.name ∈ lw_g := q_at (i := 539) (by decide +kernel) rfl
theorem jm_min_c : Cond.code Lib.Math.min.name Lib.Math.min.code 2 (some .int) ∈ lw_g := q_at (i := 540) (by decide +kernel) rfl
theorem jm_abs_s : Cond.static Lib.Math.abs.name ∈ lw_g := q_at (i := 674) (by decide +kernel) rfl
theorem jm_abs_c : Cond.code Lib.Math.abs.name Lib.Math.abs.code 1 (some .int) ∈ lw_g := q_at (i := 675) (by decide +kernel) rfl
section KROWS
variable {p : Program} {l : Launch} {e : Env} {R : Room} {s : State} {m : MethodId} {args : Array Value} {below : List Frame} {meth : Method} {c : Code} {H : Heap} {locs : List Loc} {cells slots : Nat} {Q : State → Prop}
variable {cc : ByteArray} {nL pc : Nat} {ls : Array Slot} {rest : List Value} {D : va_G} {A : Nat → Prop} {a : Nat} {tys : List (ClassId × FieldType)} {ws : va_W} {H0 : Heap} {own : String} {cw : Cond}
theorem k_get {K : String} {T : u_T} {N ci index : Nat} (hin : ∀ w ∈ u_ws K T N, w ∈ lw_g) (C : cx p s m args meth c cc nL own D tys cw) (hW : wd A H0 D ws H locs) (q0 : Nat) {fs : List Value} (he : ws[q0]? = some (a, .inr (ci, fs))) (hc : classes[ci]? = some (K, T, N)) (k : Nat) (hk : k < N) (hlink : Cond.fieldLink own index K (T k).2.1 (T k).2.2.1 ∈ lw_g) (hs : (T k).1 = K) {v : Value} (hv : fs[k]? = some v) (hdg : decode cc pc = .ok (.getfield index, 3))
    (kk : W p l e R s m args below meth c H locs cells slots Q (F0 m (pc + 3) ls (v :: rest))) : W p l e R s m args below meth c H locs cells slots Q (F0 m pc ls (.ref a :: rest)) := by
  obtain ⟨hx, hb, hml, hown, hts, hK, hlk, hN⟩ := C
  exact va_get (D := D) (cl := classes) hx hb hts (fun w h => List.mem_cons_of_mem _ (hin w h)) hown hK hW.1 q0 he hc k hk (hts _ (List.mem_cons_of_mem _ hlink)) (fun x h => by rw [hs] at h; exact h) hv hdg kk
theorem k_getN {K host : String} {T : u_T} {N ci index : Nat} (hin : ∀ w ∈ u_ws K T N, w ∈ lw_g) (C : cx p s m args meth c cc nL own D tys cw) (hW : wd A H0 D ws H locs) (q0 : Nat) {fs : List Value} (he : ws[q0]? = some (a, .inr (ci, fs))) (hc : classes[ci]? = some (K, T, N)) (k : Nat) (hk : k < N) (hlink : Cond.fieldLinkNest own index K (T k).2.1 (T k).2.2.1 host ∈ lw_tbl) (hs : (T k).1 = K) {v : Value} (hv : fs[k]? = some v) (hdg : decode cc pc = .ok (.getfield index, 3))
    (kk : W p l e R s m args below meth c H locs cells slots Q (F0 m (pc + 3) ls (v :: rest))) : W p l e R s m args below meth c H locs cells slots Q (F0 m pc ls (.ref a :: rest)) := by
  obtain ⟨hx, hb, hml, hown, hts, hK, hlk, hN⟩ := C
  exact va_getN (D := D) (cl := classes) hx hb hts (fun w h => List.mem_cons_of_mem _ (hin w h)) hown hK hW.1 q0 he hc k hk (va_Nw.use rfl (hN.1 _ hlink rfl)) (fun x h => by rw [hs] at h; exact h) hv hdg kk
theorem k_put {K : String} {T : u_T} {N ci index : Nat} (hin : ∀ w ∈ u_ws K T N, w ∈ lw_g) {ty0 : Nat → FieldType} (hty : ∀ k, k < N → parseFieldDescriptor (T k).2.2.1 = some (ty0 k)) (hnm : ∀ a, a < N → ∀ b, b < N → a ≠ b → (T a).2.1 ≠ (T b).2.1) (C : cx p s m args meth c cc nL own D tys cw) (hW : wd A H0 D ws H locs) (q0 : Nat) {fs : List Value} (he : ws[q0]? = some (a, .inr (ci, fs))) (hc : classes[ci]? = some (K, T, N)) (k : Nat) (hk : k < N) (hlink : Cond.fieldLink own index K (T k).2.1 (T k).2.2.1 ∈ lw_g) (hs : (T k).1 = K) (hfin : (T k).2.2.2 = false) {ty : FieldType} {v : Value} (hd : ty0 k = ty) (hn : narrow ty v = v) (hfit : fits ty v = true) (hl : k < fs.length) {ws' : va_W} (hws : ws.set q0 (a, .inr (ci, fs.set k v)) = ws') (hdg : decode cc pc = .ok (.putfield index, 3))
    (kk : ∀ (H1 : Heap) (locs1 : List Loc), wd A H0 D ws' H1 locs1 → W p l e R s m args below meth c H1 locs1 cells slots Q (F0 m (pc + 3) ls rest)) : W p l e R s m args below meth c H locs cells slots Q (F0 m pc ls (v :: .ref a :: rest)) := by
  obtain ⟨hx, hb, hml, hown, hts, hK, hlk, hN⟩ := C
  subst hws
  exact va_put (D := D) (cl := classes) hx hb hts (fun w h => List.mem_cons_of_mem _ (hin w h)) ty0 hty hnm hown hK hW.1 hW.2.1 hW.2.2 q0 he hc k hk (hts _ (List.mem_cons_of_mem _ hlink)) (fun x h => by rw [hs] at h; exact h) hfin (ty := ty) (by rw [← hd]; exact hty k hk) hn hfit hl hdg (fun H1 locs1 h1 h2 h3 => kk H1 locs1 ⟨h1, h2, h3⟩)
theorem k_putN {K host : String} {T : u_T} {N ci index : Nat} (hin : ∀ w ∈ u_ws K T N, w ∈ lw_g) {ty0 : Nat → FieldType} (hty : ∀ k, k < N → parseFieldDescriptor (T k).2.2.1 = some (ty0 k)) (hnm : ∀ a, a < N → ∀ b, b < N → a ≠ b → (T a).2.1 ≠ (T b).2.1) (C : cx p s m args meth c cc nL own D tys cw) (hW : wd A H0 D ws H locs) (q0 : Nat) {fs : List Value} (he : ws[q0]? = some (a, .inr (ci, fs))) (hc : classes[ci]? = some (K, T, N)) (k : Nat) (hk : k < N) (hlink : Cond.fieldLinkNest own index K (T k).2.1 (T k).2.2.1 host ∈ lw_tbl) (hs : (T k).1 = K) (hfin : (T k).2.2.2 = false) {ty : FieldType} {v : Value} (hd : ty0 k = ty) (hn : narrow ty v = v) (hfit : fits ty v = true) (hl : k < fs.length) {ws' : va_W} (hws : ws.set q0 (a, .inr (ci, fs.set k v)) = ws') (hdg : decode cc pc = .ok (.putfield index, 3))
    (kk : ∀ (H1 : Heap) (locs1 : List Loc), wd A H0 D ws' H1 locs1 → W p l e R s m args below meth c H1 locs1 cells slots Q (F0 m (pc + 3) ls rest)) : W p l e R s m args below meth c H locs cells slots Q (F0 m pc ls (v :: .ref a :: rest)) := by
  obtain ⟨hx, hb, hml, hown, hts, hK, hlk, hN⟩ := C
  subst hws
  exact va_putN (D := D) (cl := classes) hx hb hts (fun w h => List.mem_cons_of_mem _ (hin w h)) ty0 hty hnm hown hK hW.1 hW.2.1 hW.2.2 q0 he hc k hk (va_Nw.use rfl (hN.1 _ hlink rfl)) (fun x h => by rw [hs] at h; exact h) hfin (ty := ty) (by rw [← hd]; exact hty k hk) hn hfit hl hdg (fun H1 locs1 h1 h2 h3 => kk H1 locs1 ⟨h1, h2, h3⟩)
theorem k_iald {cI cS : ClassId} (C : cx p s m args meth c cc nL own D (kTy cI cS) cw) (hW : wd A H0 D ws H locs) (q0 : Nat) {n : Nat} {f : Nat → Int32} (ha : ws[q0]? = some (a, .inl (cI, n, .inl f))) {i : Int32} (hin : vp_in i n) (hdg : decode cc pc = .ok (.iaload, 1))
    (kk : W p l e R s m args below meth c H locs cells slots Q (F0 m (pc + 1) ls (.int (f i.toNatClampNeg) :: rest))) : W p l e R s m args below meth c H locs cells slots Q (F0 m pc ls (.int i :: .ref a :: rest)) := by
  obtain ⟨hx, hb, hml, hown, hts, hK, hlk, hN⟩ := C
  exact va_iald (D := D) (cl := classes) hx hb hK hW.1 q0 0 ha rfl hin hdg kk
theorem k_iast {cI cS : ClassId} (C : cx p s m args meth c cc nL own D (kTy cI cS) cw) (hW : wd A H0 D ws H locs) (q0 : Nat) {n : Nat} {f : Nat → Int32} (ha : ws[q0]? = some (a, .inl (cI, n, .inl f))) {i x : Int32} (hin : vp_in i n) {ws' : va_W} (hws : ws.set q0 (a, .inl (cI, n, .inl (upd f i.toNatClampNeg x))) = ws') (hdg : decode cc pc = .ok (.iastore, 1))
    (kk : ∀ (H1 : Heap) (locs1 : List Loc), wd A H0 D ws' H1 locs1 → W p l e R s m args below meth c H1 locs1 cells slots Q (F0 m (pc + 1) ls rest)) : W p l e R s m args below meth c H locs cells slots Q (F0 m pc ls (.int x :: .int i :: .ref a :: rest)) := by
  obtain ⟨hx, hb, hml, hown, hts, hK, hlk, hN⟩ := C
  subst hws
  exact va_iast (D := D) (cl := classes) hx hb hK hW.1 hW.2.1 hW.2.2 q0 0 ha rfl hin hdg (fun H1 locs1 h1 h2 h3 => kk H1 locs1 ⟨h1, h2, h3⟩)
theorem k_iret {v : Int32} {w1 : va_W} (C : cx p s m args meth c cc nL own D tys cw) (hr : meth.sig.returnType = some .int) (hW : wd A s.heap D w1 H locs) (hdg : decode cc pc = .ok (.ireturn, 1)) : W p l e R s m args below meth c H locs cells slots (MQ below (qI D w1 v A) args s cells slots A) (F0 m pc ls [.int v]) :=
  W.iret C.1 C.2.1 hr (fun t ht hW' => ⟨⟨v, (), rfl, rfl, by show va_P D classes w1 t.heap; rw [ht]; exact hW.1⟩, hW.2.2.F ht⟩) hW.2.2.2.2 hdg C.2.2.2.2.2.2.1
theorem k_zret {v : Int32} {w1 : va_W} (C : cx p s m args meth c cc nL own D tys cw) (hr : meth.sig.returnType = some .boolean) (hn : narrow .boolean (.int v) = .int v) (hW : wd A s.heap D w1 H locs) (hdg : decode cc pc = .ok (.ireturn, 1)) : W p l e R s m args below meth c H locs cells slots (MQ below (qI D w1 v A) args s cells slots A) (F0 m pc ls [.int v]) :=
  W.zret C.1 C.2.1 hr hn (fun t ht hW' => ⟨⟨v, (), rfl, rfl, by show va_P D classes w1 t.heap; rw [ht]; exact hW.1⟩, hW.2.2.F ht⟩) hW.2.2.2.2 hdg C.2.2.2.2.2.2.1
theorem k_lret {v : Int64} {w1 : va_W} (C : cx p s m args meth c cc nL own D tys cw) (hr : meth.sig.returnType = some .long) (hW : wd A s.heap D w1 H locs) (hdg : decode cc pc = .ok (.lreturn, 1)) : W p l e R s m args below meth c H locs cells slots (MQ below (qL D w1 v A) args s cells slots A) (F0 m pc ls [.long v]) :=
  W.lret C.1 C.2.1 hr (fun t ht hW' => ⟨⟨v, (), rfl, rfl, by show va_P D classes w1 t.heap; rw [ht]; exact hW.1⟩, hW.2.2.F ht⟩) hW.2.2.2.2 hdg C.2.2.2.2.2.2.1
theorem k_vret {w1 : va_W} (C : cx p s m args meth c cc nL own D tys cw) (hr : meth.sig.returnType = none) (hW : wd A s.heap D w1 H locs) (hdg : decode cc pc = .ok (.return_, 1)) : W p l e R s m args below meth c H locs cells slots (MQ below (qV D w1 A) args s cells slots A) (F0 m pc ls []) :=
  W.vret C.1 C.2.1 hr (fun t ht hW' => ⟨⟨(), rfl, trivial, by show va_P D classes w1 t.heap; rw [ht]; exact hW.1⟩, hW.2.2.F ht⟩) hW.2.2.2.2 hdg C.2.2.2.2.2.2.1
theorem k_aret {v : Nat} {w1 : va_W} {nm : String} (C : cx p s m args meth c cc nL own D tys cw) (hr : meth.sig.returnType = some (.object nm)) (hW : wd A s.heap D w1 H locs) (hdg : decode cc pc = .ok (.areturn, 1)) : W p l e R s m args below meth c H locs cells slots (MQ below (qR D w1 v A) args s cells slots A) (F0 m pc ls [.ref v]) :=
  W.aret C.1 C.2.1 hr (Or.inl ⟨_, rfl⟩) (Or.inr ⟨_, rfl⟩) (fun t ht hW' => ⟨⟨(), v, rfl, trivial, rfl, by show va_P D classes w1 t.heap; rw [ht]; exact hW.1⟩, hW.2.2.F ht⟩) hW.2.2.2.2 hdg C.2.2.2.2.2.2.1
/-- a call's run, from a contract -/
theorem k_runV {y : MethodName} {bytes : ByteArray} {maxL n index d : Nat} {ret : Option FieldType} {Qc : Array Value → State → Outcome → State → Prop} {b ci : Nat} {K : u_T × Nat} {fs As : List Value} {w0 : va_W} {st0 : List Value}
    (C : cx p s m args meth c cc nL own D tys cw) (hA : ∀ q, H0.size ≤ q → A q) (hW : wd A H0 D ws H locs) (hMW : mW y bytes maxL ret n) (hMV : mV y) (hM : Met l y (Cond.code y bytes maxL ret :: lw_g) (rmd d) (va_Pc (.ref b :: As) (kPre D tys w0 H.size)) Qc 0 0 (va_A w0 H.size)) (is : List Nat) (hC : is.map (fun i => ws[i]?) = w0.map some) (hnd : va_nd is = true) (q0 : Nat) (hrv : ws[q0]? = some (b, .inr (ci, fs))) (hcl : classes[ci]? = some (y.cls, K)) (hlk : Cond.methodLink own index y ∈ lw_g) (hR : d + 1 ≤ R.frames ∧ 8 + (maxL + 11) + 60 * d ≤ R.locals ∧ cells ≤ R.cells ∧ slots ≤ R.slots) (hn : As.length = n) (hst : st0 = As.reverse ++ .ref b :: rest) (hsum : (rest.map fun v => v.category).sum ≤ 8) (hsz : ls.size = nL) (hdg : decode cc pc = .ok (.invokevirtual index, 3)) :
    va_Run p l e R s m args below meth c H locs cells slots 0 0 (F0 m pc ls st0) rest (Qc (Value.ref b :: As).toArray) (va_A w0 H.size) := by
  obtain ⟨hx, hb, hml, hown, hts, hK, hlk2, hN⟩ := C
  obtain ⟨w1, w2, w3, w4, w5⟩ := hMW
  have hcut := wd_cut hW is hC hnd
  have mem : ∀ {w : Cond}, w ∈ lw_g → w.before args s = true := fun h => hts _ (List.mem_cons_of_mem _ h)
  exact va_runV (own := own) (C := y.cls) ⟨hx, hb, hml, hown, hts⟩ hM ⟨callB_of n hts (goodT w1) rfl rfl rfl (mem w2) (mem hlk) ⟨w3, w4, w5⟩ ⟨hR.1, hR.2.1⟩, mem hMV.1, mem hMV.2⟩ ⟨kPre_blind _ _ _ _ _, va_recv hK hW.1 hcl hrv, fun U hU hWm => ⟨rfl, by rw [hU], by rw [hU]; exact hcut.1, va_K.moved hWm.alike hK, kN.warm hWm hN, hcut.2⟩⟩ rfl hn hsz hst (lv_room hsum) hdg ⟨hR.2.2.1, hR.2.2.2⟩
theorem k_runVN {y : MethodName} {host : String} {bytes : ByteArray} {maxL n index d : Nat} {ret : Option FieldType} {Qc : Array Value → State → Outcome → State → Prop} {b ci : Nat} {K : u_T × Nat} {fs As : List Value} {w0 : va_W} {st0 : List Value}
    (C : cx p s m args meth c cc nL own D tys cw) (hA : ∀ q, H0.size ≤ q → A q) (hW : wd A H0 D ws H locs) (hMW : mW y bytes maxL ret n) (hMV : mV y) (hM : Met l y (Cond.code y bytes maxL ret :: lw_g) (rmd d) (va_Pc (.ref b :: As) (kPre D tys w0 H.size)) Qc 0 0 (va_A w0 H.size)) (is : List Nat) (hC : is.map (fun i => ws[i]?) = w0.map some) (hnd : va_nd is = true) (q0 : Nat) (hrv : ws[q0]? = some (b, .inr (ci, fs))) (hcl : classes[ci]? = some (y.cls, K)) (hlk : Cond.methodLinkNest own index y host ∈ lw_tbl) (hR : d + 1 ≤ R.frames ∧ 8 + (maxL + 11) + 60 * d ≤ R.locals ∧ cells ≤ R.cells ∧ slots ≤ R.slots) (hn : As.length = n) (hst : st0 = As.reverse ++ .ref b :: rest) (hsum : (rest.map fun v => v.category).sum ≤ 8) (hsz : ls.size = nL) (hdg : decode cc pc = .ok (.invokevirtual index, 3)) :
    va_Run p l e R s m args below meth c H locs cells slots 0 0 (F0 m pc ls st0) rest (Qc (Value.ref b :: As).toArray) (va_A w0 H.size) := by
  obtain ⟨hx, hb, hml, hown, hts, hK, hlk2, hN⟩ := C
  obtain ⟨w1, w2, w3, w4, w5⟩ := hMW
  have hcut := wd_cut hW is hC hnd
  have mem : ∀ {w : Cond}, w ∈ lw_g → w.before args s = true := fun h => hts _ (List.mem_cons_of_mem _ h)
  exact va_runVN (own := own) (C := y.cls) ⟨hx, hb, hml, hown, hts⟩ hM ⟨va_cnB n hts (goodT w1) rfl rfl rfl (hN.1 _ hlk rfl) (mem w2) ⟨w3, w4, w5⟩ ⟨hR.1, hR.2.1⟩, mem hMV.1, mem hMV.2⟩ ⟨kPre_blind _ _ _ _ _, va_recv hK hW.1 hcl hrv, fun U hU hWm => ⟨rfl, by rw [hU], by rw [hU]; exact hcut.1, va_K.moved hWm.alike hK, kN.warm hWm hN, hcut.2⟩⟩ rfl hn hsz hst (lv_room hsum) hdg ⟨hR.2.2.1, hR.2.2.2⟩
theorem k_runS {y : MethodName} {bytes : ByteArray} {maxL n index d : Nat} {ret : Option FieldType} {Qc : Array Value → State → Outcome → State → Prop} {As : List Value} {w0 : va_W} {st0 : List Value}
    (C : cx p s m args meth c cc nL own D tys cw) (hA : ∀ q, H0.size ≤ q → A q) (hW : wd A H0 D ws H locs) (hMW : mW y bytes maxL ret n) (hMV : Cond.static y ∈ lw_g) (hM : Met l y (Cond.code y bytes maxL ret :: lw_g) (rmd d) (va_Pc As (kPre D tys w0 H.size)) Qc 0 0 (va_A w0 H.size)) (is : List Nat) (hC : is.map (fun i => ws[i]?) = w0.map some) (hnd : va_nd is = true) (hlk : Cond.methodLink own index y ∈ lw_g) (hR : d + 1 ≤ R.frames ∧ 8 + (maxL + 11) + 60 * d ≤ R.locals ∧ cells ≤ R.cells ∧ slots ≤ R.slots) (hn : As.length = n) (hst : st0 = As.reverse ++ rest) (hsum : (rest.map fun v => v.category).sum ≤ 8) (hsz : ls.size = nL) (hdg : decode cc pc = .ok (.invokestatic index, 3)) :
    va_Run p l e R s m args below meth c H locs cells slots 0 0 (F0 m pc ls st0) rest (Qc As.toArray) (va_A w0 H.size) := by
  obtain ⟨hx, hb, hml, hown, hts, hK, hlk2, hN⟩ := C
  obtain ⟨w1, w2, w3, w4, w5⟩ := hMW
  have hcut := wd_cut hW is hC hnd
  have mem : ∀ {w : Cond}, w ∈ lw_g → w.before args s = true := fun h => hts _ (List.mem_cons_of_mem _ h)
  exact va_runS (own := own) ⟨hx, hb, hml, hown, hts⟩ hM ⟨callB_of n hts (goodT w1) rfl rfl rfl (mem w2) (mem hlk) ⟨w3, w4, w5⟩ ⟨hR.1, hR.2.1⟩, mem hMV⟩ ⟨kPre_blind _ _ _ _ _, fun U hU hWm => ⟨rfl, by rw [hU], by rw [hU]; exact hcut.1, va_K.moved hWm.alike hK, kN.warm hWm hN, hcut.2⟩⟩ rfl hn hsz hst (lv_room hsum) hdg ⟨hR.2.2.1, hR.2.2.2⟩
theorem k_runSN {y : MethodName} {host : String} {bytes : ByteArray} {maxL n index d : Nat} {ret : Option FieldType} {Qc : Array Value → State → Outcome → State → Prop} {As : List Value} {w0 : va_W} {st0 : List Value}
    (C : cx p s m args meth c cc nL own D tys cw) (hA : ∀ q, H0.size ≤ q → A q) (hW : wd A H0 D ws H locs) (hMW : mW y bytes maxL ret n) (hMV : Cond.static y ∈ lw_g) (hM : Met l y (Cond.code y bytes maxL ret :: lw_g) (rmd d) (va_Pc As (kPre D tys w0 H.size)) Qc 0 0 (va_A w0 H.size)) (is : List Nat) (hC : is.map (fun i => ws[i]?) = w0.map some) (hnd : va_nd is = true) (hlk : Cond.methodLinkNest own index y host ∈ lw_tbl) (hR : d + 1 ≤ R.frames ∧ 8 + (maxL + 11) + 60 * d ≤ R.locals ∧ cells ≤ R.cells ∧ slots ≤ R.slots) (hn : As.length = n) (hst : st0 = As.reverse ++ rest) (hsum : (rest.map fun v => v.category).sum ≤ 8) (hsz : ls.size = nL) (hdg : decode cc pc = .ok (.invokestatic index, 3)) :
    va_Run p l e R s m args below meth c H locs cells slots 0 0 (F0 m pc ls st0) rest (Qc As.toArray) (va_A w0 H.size) := by
  obtain ⟨hx, hb, hml, hown, hts, hK, hlk2, hN⟩ := C
  obtain ⟨w1, w2, w3, w4, w5⟩ := hMW
  have hcut := wd_cut hW is hC hnd
  have mem : ∀ {w : Cond}, w ∈ lw_g → w.before args s = true := fun h => hts _ (List.mem_cons_of_mem _ h)
  exact va_runSN (own := own) ⟨hx, hb, hml, hown, hts⟩ hM ⟨va_cnB n hts (goodT w1) rfl rfl rfl (hN.1 _ hlk rfl) (mem w2) ⟨w3, w4, w5⟩ ⟨hR.1, hR.2.1⟩, mem hMV, trivial⟩ ⟨kPre_blind _ _ _ _ _, fun U hU hWm => ⟨rfl, by rw [hU], by rw [hU]; exact hcut.1, va_K.moved hWm.alike hK, kN.warm hWm hN, hcut.2⟩⟩ rfl hn hsz hst (lv_room hsum) hdg ⟨hR.2.2.1, hR.2.2.2⟩
/-- behind a call's run -/
theorem k_goI {w0 w1 ws' : va_W} {r : Int32} {a : Array Value} {st0 : List Value} (hA : ∀ q, H0.size ≤ q → A q) (hW : wd A H0 D ws H locs) (is : List Nat) (hC : is.map (fun i => ws[i]?) = w0.map some) (he : w1.map Prod.fst = w0.map Prod.fst) (hws : kPut ws is w1 = ws') (hr : va_Run p l e R s m args below meth c H locs cells slots 0 0 (F0 m pc ls st0) rest (qI D w1 r (va_A w0 H.size) a) (va_A w0 H.size))
    (kk : ∀ (H1 : Heap) (locs1 : List Loc), wd A H0 D ws' H1 locs1 → W p l e R s m args below meth c H1 locs1 cells slots Q (F0 m (pc + 3) ls (.int r :: rest))) : W p l e R s m args below meth c H locs cells slots Q (F0 m pc ls st0) := by
  subst hws
  have hF := wd_free hW hA is hC
  exact va_calli hr hW.2.2 (fun q _ h => hF q h) hF (fun r' u t H1 locs1 ht hvm hp hB hz hk hS => by
    subst hp
    rw [ht] at hB
    exact kk H1 locs1 (wd_call hW is hC he hB hk hS))
theorem k_goL {w0 w1 ws' : va_W} {r : Int64} {a : Array Value} {st0 : List Value} (hA : ∀ q, H0.size ≤ q → A q) (hW : wd A H0 D ws H locs) (is : List Nat) (hC : is.map (fun i => ws[i]?) = w0.map some) (he : w1.map Prod.fst = w0.map Prod.fst) (hws : kPut ws is w1 = ws') (hr : va_Run p l e R s m args below meth c H locs cells slots 0 0 (F0 m pc ls st0) rest (qL D w1 r (va_A w0 H.size) a) (va_A w0 H.size))
    (kk : ∀ (H1 : Heap) (locs1 : List Loc), wd A H0 D ws' H1 locs1 → W p l e R s m args below meth c H1 locs1 cells slots Q (F0 m (pc + 3) ls (.long r :: rest))) : W p l e R s m args below meth c H locs cells slots Q (F0 m pc ls st0) := by
  subst hws
  have hF := wd_free hW hA is hC
  exact va_calll hr hW.2.2 (fun q _ h => hF q h) hF (fun r' u t H1 locs1 ht hvm hp hB hz hk hS => by
    subst hp
    rw [ht] at hB
    exact kk H1 locs1 (wd_call hW is hC he hB hk hS))
theorem k_goV {w0 w1 ws' : va_W} {a : Array Value} {st0 : List Value} (hA : ∀ q, H0.size ≤ q → A q) (hW : wd A H0 D ws H locs) (is : List Nat) (hC : is.map (fun i => ws[i]?) = w0.map some) (he : w1.map Prod.fst = w0.map Prod.fst) (hws : kPut ws is w1 = ws') (hr : va_Run p l e R s m args below meth c H locs cells slots 0 0 (F0 m pc ls st0) rest (qV D w1 (va_A w0 H.size) a) (va_A w0 H.size))
    (kk : ∀ (H1 : Heap) (locs1 : List Loc), wd A H0 D ws' H1 locs1 → W p l e R s m args below meth c H1 locs1 cells slots Q (F0 m (pc + 3) ls rest)) : W p l e R s m args below meth c H locs cells slots Q (F0 m pc ls st0) := by
  subst hws
  have hF := wd_free hW hA is hC
  exact va_callv hr hW.2.2 (fun q _ h => hF q h) hF (fun u t H1 locs1 ht hvm hp hB hz hk hS => by
    rw [ht] at hB
    exact kk H1 locs1 (wd_call hW is hC he hB hk hS))
theorem k_goR {w0 w1 ws' : va_W} {r : Nat} {a : Array Value} {st0 : List Value} (hA : ∀ q, H0.size ≤ q → A q) (hW : wd A H0 D ws H locs) (is : List Nat) (hC : is.map (fun i => ws[i]?) = w0.map some) (he : w1.map Prod.fst = w0.map Prod.fst) (hws : kPut ws is w1 = ws') (hr : va_Run p l e R s m args below meth c H locs cells slots 0 0 (F0 m pc ls st0) rest (qR D w1 r (va_A w0 H.size) a) (va_A w0 H.size))
    (kk : ∀ (H1 : Heap) (locs1 : List Loc), wd A H0 D ws' H1 locs1 → W p l e R s m args below meth c H1 locs1 cells slots Q (F0 m (pc + 3) ls (.ref r :: rest))) : W p l e R s m args below meth c H locs cells slots Q (F0 m pc ls st0) := by
  subst hws
  have hF := wd_free hW hA is hC
  exact va_callr hr hW.2.2 (fun q _ h => hF q h) hF (fun u ra t H1 locs1 ht hvm hp hB hz hk hS => by
    obtain ⟨rfl, hB⟩ := hB
    rw [ht] at hB
    exact kk H1 locs1 (wd_call hW is hC he hB hk hS))
theorem k_tabIn {x n : Int32} {dflt lo hi : Int} {offs : Array Int} {len : Nat} {off : Int} {tgt : Nat} (hx : x = n) (hexec : p.tables.exec = Jvm.exec) (hb : c.code = cc) (hdg : decode cc pc = .ok (.tableswitch dflt lo hi offs, len)) (h1 : ¬ n.toInt < lo) (h2 : ¬ hi < n.toInt) (ho : offs[(n.toInt - lo).toNat]? = some off) (ht : (pc : Int) + off = (tgt : Int)) (k : W p l e R s m args below meth c H locs cells slots Q (F0 m tgt ls rest)) : W p l e R s m args below meth c H locs cells slots Q (F0 m pc ls (.int x :: rest)) := by
  subst hx
  exact lv_tableIn hexec hb hdg h1 h2 ho ht k
theorem k_lookIn {x n : Int32} {dflt : Int} {ps : Array (Int × Int)} {len : Nat} {off : Int} {tgt : Nat} (hx : x = n) (hexec : p.tables.exec = Jvm.exec) (hb : c.code = cc) (hdg : decode cc pc = .ok (.lookupswitch dflt ps, len)) (hp : (ps.toList.zip (ps.toList.drop 1)).all (fun (a, next) => a.1 < next.1) = true) (ho : Op.lookupswitch.offset ps.toList dflt n.toInt = off) (ht : (pc : Int) + off = (tgt : Int)) (k : W p l e R s m args below meth c H locs cells slots Q (F0 m tgt ls rest)) : W p l e R s m args below meth c H locs cells slots Q (F0 m pc ls (.int x :: rest)) := by
  subst hx
  exact lv_lookup hexec hb hdg hp ho ht k
theorem k_copy {cI cS : ClassId} (C : cx p s m args meth c cc nL own D (kTy cI cS) cw) (hW : wd A H0 D ws H locs) (q0 q1 : Nat) {a0 n0 n1 : Nat} {f g : Nat → Int32} (ha0 : ws[q0]? = some (a0, .inl (cI, n0, .inl f))) (ha1 : ws[q1]? = some (a, .inl (cI, n1, .inl g))) {n : Int32} {k index : Nat} (h3 : ¬ n < 0) (hk : n.toNatClampNeg = k) (h4 : k ≤ n0) (h5 : k ≤ n1) (hlk : Cond.methodLink own index arraycopyName ∈ lw_g)
    (hR : 1 ≤ R.frames ∧ (rest.map fun v => v.category).sum + (nativeFrameWords "java/lang/System" "arraycopy" 5 + 11) ≤ R.locals) (hsz : ls.size = nL) {ws' : va_W} (hws : ws.set q1 (a, .inl (cI, n1, .inl (va_cpy f g 0 0 k))) = ws') (hdg : decode cc pc = .ok (.invokestatic index, 3))
    (kk : ∀ (H1 : Heap) (locs1 : List Loc), wd A H0 D ws' H1 locs1 → W p l e R s m args below meth c H1 locs1 cells slots Q (F0 m (pc + 3) ls rest)) : W p l e R s m args below meth c H locs cells slots Q (F0 m pc ls (.int n :: .int 0 :: .ref a :: .int 0 :: .ref a0 :: rest)) := by
  obtain ⟨hx, hb, hml, hown, hts, hK, hlk2, hN⟩ := C
  subst hws
  subst hk
  have mem : ∀ {w : Cond}, w ∈ lw_g → w.before args s = true := fun h => hts _ (List.mem_cons_of_mem _ h)
  refine va_copyi (D := D) (cl := classes) hx hb (hml.trans hsz.symm) hown (mem hlk) (mem ac_n) (mem ac_s) (mem ac_i) hK hW.1 hW.2.1 hW.2.2 q0 q1 0 0 ha0 ha1 rfl rfl rfl (sp := 0) (dp := 0) (by decide) (by decide) h3 (by show 0 + _ ≤ _; omega) (by show 0 + _ ≤ _; omega) (fun i _ => rfl) hR.1 hR.2 hdg (fun H1 locs1 h1 h2 h3 => kk H1 locs1 ⟨h1, h2, h3⟩)
theorem k_goIp {w0 : va_W} {r : Int32} {a : Array Value} {st0 : List Value} (hA : ∀ q, H0.size ≤ q → A q) (hW : wd A H0 D ws H locs) (is : List Nat) (hC : is.map (fun i => ws[i]?) = w0.map some) (_ : True = True) (hr : va_Run p l e R s m args below meth c H locs cells slots 0 0 (F0 m pc ls st0) rest (qI D w0 r (va_A w0 H.size) a) (va_A w0 H.size))
    (kk : ∀ (H1 : Heap) (locs1 : List Loc), wd A H0 D ws H1 locs1 → W p l e R s m args below meth c H1 locs1 cells slots Q (F0 m (pc + 3) ls (.int r :: rest))) : W p l e R s m args below meth c H locs cells slots Q (F0 m pc ls st0) :=
  k_goI hA hW is hC rfl (kPut_same is w0 ws hC) hr kk
theorem k_goLp {w0 : va_W} {r : Int64} {a : Array Value} {st0 : List Value} (hA : ∀ q, H0.size ≤ q → A q) (hW : wd A H0 D ws H locs) (is : List Nat) (hC : is.map (fun i => ws[i]?) = w0.map some) (_ : True = True) (hr : va_Run p l e R s m args below meth c H locs cells slots 0 0 (F0 m pc ls st0) rest (qL D w0 r (va_A w0 H.size) a) (va_A w0 H.size))
    (kk : ∀ (H1 : Heap) (locs1 : List Loc), wd A H0 D ws H1 locs1 → W p l e R s m args below meth c H1 locs1 cells slots Q (F0 m (pc + 3) ls (.long r :: rest))) : W p l e R s m args below meth c H locs cells slots Q (F0 m pc ls st0) :=
  k_goL hA hW is hC rfl (kPut_same is w0 ws hC) hr kk
theorem k_goVp {w0 : va_W} {a : Array Value} {st0 : List Value} (hA : ∀ q, H0.size ≤ q → A q) (hW : wd A H0 D ws H locs) (is : List Nat) (hC : is.map (fun i => ws[i]?) = w0.map some) (_ : True = True) (hr : va_Run p l e R s m args below meth c H locs cells slots 0 0 (F0 m pc ls st0) rest (qV D w0 (va_A w0 H.size) a) (va_A w0 H.size))
    (kk : ∀ (H1 : Heap) (locs1 : List Loc), wd A H0 D ws H1 locs1 → W p l e R s m args below meth c H1 locs1 cells slots Q (F0 m (pc + 3) ls rest)) : W p l e R s m args below meth c H locs cells slots Q (F0 m pc ls st0) :=
  k_goV hA hW is hC rfl (kPut_same is w0 ws hC) hr kk
theorem k_tabDef {x : Int32} {dflt lo hi : Int} {offs : Array Int} {len : Nat} {tgt : Nat} (ks : List Int32) (hk : ((List.range (hi - lo + 1).toNat).all fun i => (ks.map Int32.toInt).contains (lo + (i : Int)) || offs[i]? == some dflt) = true) (h : ∀ k ∈ ks, ¬ x = k) (hexec : p.tables.exec = Jvm.exec) (hb : c.code = cc) (hdg : decode cc pc = .ok (.tableswitch dflt lo hi offs, len)) (ht : (pc : Int) + dflt = (tgt : Int)) (k : W p l e R s m args below meth c H locs cells slots Q (F0 m tgt ls rest)) : W p l e R s m args below meth c H locs cells slots Q (F0 m pc ls (.int x :: rest)) := by
  by_cases h1 : x.toInt < lo
  · exact lv_tableOut hexec hb hdg (Or.inl h1) ht k
  by_cases h2 : hi < x.toInt
  · exact lv_tableOut hexec hb hdg (Or.inr h2) ht k
  have h3 := List.all_eq_true.mp hk (x.toInt - lo).toNat (List.mem_range.mpr (by omega))
  rw [Bool.or_eq_true] at h3
  rcases h3 with h3 | h3
  · exfalso
    rw [List.contains_iff_mem] at h3
    obtain ⟨k, hk1, hk2⟩ := List.mem_map.mp h3
    refine h k hk1 (Int32.toInt_inj.mp ?_)
    rw [hk2]
    omega
  · exact lv_tableIn hexec hb hdg h1 h2 (by simpa using h3) ht k
theorem k_mmax (C : cx p s m args meth c cc nL own D tys cw) {index : Nat} (hlk : Cond.methodLink own index Lib.Math.max.name ∈ lw_g) (hR : 1 ≤ R.frames ∧ (rest.map fun v => v.category).sum + 13 ≤ R.locals ∧ cells ≤ R.cells ∧ slots ≤ R.slots) (hsz : ls.size = nL) {x y : Int32} (hdg : decode cc pc = .ok (.invokestatic index, 3))
    (kk : W p l e R s m args below meth c H locs cells slots Q (F0 m (pc + 3) ls (.int (if x < y then y else x) :: rest))) : W p l e R s m args below meth c H locs cells slots Q (F0 m pc ls (.int y :: .int x :: rest)) := by
  obtain ⟨hx, hb, hml, hown, hts, hK, hlk2, hN⟩ := C
  have mem : ∀ {w : Cond}, w ∈ lw_g → w.before args s = true := fun h => hts _ (List.mem_cons_of_mem _ h)
  exact va_mmax hx hb (hml.trans hsz.symm) hown (mem hlk) (mem jm_max_s) (mem jm_i) (mem jm_max_c) hR.1 hR.2.1 hR.2.2.1 hR.2.2.2 hdg kk
theorem k_mmin (C : cx p s m args meth c cc nL own D tys cw) {index : Nat} (hlk : Cond.methodLink own index Lib.Math.min.name ∈ lw_g) (hR : 1 ≤ R.frames ∧ (rest.map fun v => v.category).sum + 13 ≤ R.locals ∧ cells ≤ R.cells ∧ slots ≤ R.slots) (hsz : ls.size = nL) {x y : Int32} (hdg : decode cc pc = .ok (.invokestatic index, 3))
    (kk : W p l e R s m args below meth c H locs cells slots Q (F0 m (pc + 3) ls (.int (if y < x then y else x) :: rest))) : W p l e R s m args below meth c H locs cells slots Q (F0 m pc ls (.int y :: .int x :: rest)) := by
  obtain ⟨hx, hb, hml, hown, hts, hK, hlk2, hN⟩ := C
  have mem : ∀ {w : Cond}, w ∈ lw_g → w.before args s = true := fun h => hts _ (List.mem_cons_of_mem _ h)
  exact va_mmin hx hb (hml.trans hsz.symm) hown (mem hlk) (mem jm_min_s) (mem jm_i) (mem jm_min_c) hR.1 hR.2.1 hR.2.2.1 hR.2.2.2 hdg kk
theorem k_mabs (C : cx p s m args meth c cc nL own D tys cw) {index : Nat} (hlk : Cond.methodLink own index Lib.Math.abs.name ∈ lw_g) (hR : 1 ≤ R.frames ∧ (rest.map fun v => v.category).sum + 13 ≤ R.locals ∧ cells ≤ R.cells ∧ slots ≤ R.slots) (hsz : ls.size = nL) {x : Int32} (hdg : decode cc pc = .ok (.invokestatic index, 3))
    (kk : W p l e R s m args below meth c H locs cells slots Q (F0 m (pc + 3) ls (.int (if 0 ≤ x then x else 0 - x) :: rest))) : W p l e R s m args below meth c H locs cells slots Q (F0 m pc ls (.int x :: rest)) := by
  obtain ⟨hx, hb, hml, hown, hts, hK, hlk2, hN⟩ := C
  have mem : ∀ {w : Cond}, w ∈ lw_g → w.before args s = true := fun h => hts _ (List.mem_cons_of_mem _ h)
  exact va_mabs hx hb (hml.trans hsz.symm) hown (mem hlk) (mem jm_abs_s) (mem jm_i) (mem jm_abs_c) hR.1 hR.2.1 hR.2.2.1 hR.2.2.2 hdg kk
theorem k_aald {cI cS : ClassId} (C : cx p s m args meth c cc nL own D (kTy cI cS) cw) (hW : wd A H0 D ws H locs) (q0 : Nat) {n : Nat} {sa g : Nat → Nat} (ha : ws[q0]? = some (a, .inl (cS, n, .inr (.inr (.inr (.inr (fun i => some (sa (g i))))))))) {i : Int32} (hin : vp_in i n) (hdg : decode cc pc = .ok (.aaload, 1))
    (kk : W p l e R s m args below meth c H locs cells slots Q (F0 m (pc + 1) ls (.ref (sa (g i.toNatClampNeg)) :: rest))) : W p l e R s m args below meth c H locs cells slots Q (F0 m pc ls (.int i :: .ref a :: rest)) := by
  obtain ⟨hx, hb, hml, hown, hts, hK, hlk, hN⟩ := C
  exact va_aldq (D := D) (cl := classes) hx hb hK hW.1 q0 1 ha rfl hin hdg kk
theorem k_aast {cI cS : ClassId} (C : cx p s m args meth c cc nL own D (kTy cI cS) cw) (hW : wd A H0 D ws H locs) (q0 qk : Nat) {n ci j N : Nat} {T : u_T} {sa g : Nat → Nat} {vs : List Value} (ha : ws[q0]? = some (a, .inl (cS, n, .inr (.inr (.inr (.inr (fun i => some (sa (g i))))))))) (hv : ws[qk]? = some (sa j, .inr (ci, vs))) (hc : classes[ci]? = some ("HamperByWeather$Step", T, N)) {i : Int32} (hin : vp_in i n) {ws' : va_W} (hws : ws.set q0 (a, .inl (cS, n, .inr (.inr (.inr (.inr (fun k => some (sa (va_up g i.toNatClampNeg j k)))))))) = ws') (hdg : decode cc pc = .ok (.aastore, 1))
    (kk : ∀ (H1 : Heap) (locs1 : List Loc), wd A H0 D ws' H1 locs1 → W p l e R s m args below meth c H1 locs1 cells slots Q (F0 m (pc + 1) ls rest)) : W p l e R s m args below meth c H locs cells slots Q (F0 m pc ls (.ref (sa j) :: .int i :: .ref a :: rest)) := by
  obtain ⟨hx, hb, hml, hown, hts, hK, hlk, hN⟩ := C
  subst hws
  refine va_astq (D := D) (cl := classes) hx hb hK hW.1 hW.2.1 hW.2.2 q0 1 qk ci (r := ("HamperByWeather$Step", T, N)) ha rfl hv hc hin hdg (fun H1 locs1 h1 h2 h3 => ?_)
  rw [up_sa] at h1 h2
  exact kk H1 locs1 ⟨h1, h2, h3⟩
end KROWS
