/-! THE CLAIM OUT OF ONE WALK OF THE LAW'S BODY. Your part is whole_start (and what it stands on); all else here is the same for every law, but numbers. -/
def R_law : String := "HamperByWeatherLaw"
def lw_P (b : Addr) (xs : List Int32) (args : Array Value) (s : State) : Prop := args = #[.ref b] ∧ s.IntsAt b xs ∧ xs.length ≤ 2048 ∧ (Jvm.Cond.and given_1 narrow_1).before args s = true
def lw_Q (_ : Array Value) (s : State) (o : Outcome) (t : State) : Prop := o = .returned (some (.int 1)) ∧ Framed s o t [] 600000 7302250
def lw_Z (below : List Frame) (a : Array Value) (s : State) : State → Prop := fun t => ∃ o, t.status = .running ∧ Ended t below o ∧ lw_Q a s o t
/-- the law's own end, with 1 on the stack, nothing written that was there before, its room as the claim has it -/
theorem lw_ret {p : Program} {l : Launch} {e : Env} {s : State} {m : MethodId} {below : List Frame} {meth : Method} {c : Code} {b : Nat} (hx : p.tables.exec = Jvm.exec) (hb : c.code = code) (hr : meth.sig.returnType = ret) (hlocks : meth.locks = false) {pc : Nat} {H : Heap} {ls : Array Slot} (hdg : decode code pc = .ok (.ireturn, 1)) : W p l e room_1 s m #[Value.ref b] below meth c H [] 600000 7302250 (lw_Z below #[Value.ref b] s) (F0 m pc ls [.int 1]) := by
  intro T hT X
  obtain ⟨fs, hret, hrun, hended, hW, hframe⟩ := X.leave (v := some (.int 1)) (hlocks := hlocks) (fun h => by rw [hr] at h; cases h)
  have hmeth' : T.vm.method? m = some meth := X.method'
  refine ⟨T.setFrames fs, ?_, .returned (some (.int 1)), hrun, hended, rfl, ⟨_, rfl⟩, hW, hframe⟩
  jvm_step X.here [X.here.top, hx, hb, hdg, hmeth', hr, ret, narrow_b1]
  (try refine ⟨rfl, ?_⟩); (try refine ⟨rfl, ?_⟩)
  first | (intro acts; rw [hret _ acts rfl rfl rfl]) | rw [hret _ _ rfl rfl rfl]
  exact Steps.refl _
/-- what holds at the law's entry: the machine, the code, the tables' words (any of lw_tbl by 'hts w (by decide +kernel)'), the script of L ints xs at the cell b, what the Statement gives of the start (any of its parts by flat_of_before) -/
def lw_At (p : Program) (s : State) (m : MethodId) (meth : Method) (c : Code) (b L : Nat) (xs : Nat → Int32) : Prop :=
  p.tables.exec = Jvm.exec ∧ c.code = code ∧ meth.sig.returnType = ret ∧ c.maxLocals = 4 ∧ s.vm.findClass R_law = some m.cls ∧ (∀ w ∈ lw_tbl, w.before #[Value.ref b] s = true) ∧ va_X b L xs s s.heap ∧ b < s.heap.size ∧ meth.locks = false ∧ (Jvm.Cond.and given_1 narrow_1).before #[Value.ref b] s = true
def kvf (v : Nat → Nat) : Int32 → Value := fun t => if t = 1 then .ref (v 11) else if t = 2 then .ref (v 12) else if t = 3 then .ref (v 14) else .null
theorem kvf_kept (v : Nat → Nat) : kvf v 1 = .ref (v 11) := rfl
theorem kvf_imaged (v : Nat → Nat) : kvf v 2 = .ref (v 12) := rfl
theorem kvf_turnOf (v : Nat → Nat) : kvf v 3 = .ref (v 14) := rfl
def wC (cI cS : ClassId) (a : Nat) (u : Nat → Nat) (hk : Int32) (th : Int32) (dy : Int32) (dn : Int32) (wt : Nat → Int32) (kd : Nat → Int32) (fg : Nat → Int32) (go : Nat → Int32) (hm : Nat → Int32) (wi : Nat → Int32) (lf : Nat → Int32) (kth : Int32) (kdy : Int32) (kdn : Int32) (kwt : Nat → Int32) (kkd : Nat → Int32) (kfg : Nat → Int32) (kgo : Nat → Int32) (khm : Nat → Int32) (kwi : Nat → Int32) (klf : Nat → Int32) (tth : Int32) (tdy : Int32) (tdn : Int32) (twt : Nat → Int32) (tkd : Nat → Int32) (tfg : Nat → Int32) (tgo : Nat → Int32) (thm : Nat → Int32) (twi : Nat → Int32) (tlf : Nat → Int32) (sc : Int32) (sg : Nat → Nat) (sp : Nat → Int32) (sl : Nat → Int32) (sb : Nat → Int32) (sf : Nat → Int32) (sd : Nat → Int32) (lc : Int32) (lt : Nat → Int32) (nc : Int32) (nu : Nat → Int32) (h_days : Int32) (h_counted : Int32) (h_atMost : Int32) (h_most : Int32) (h_oneIn : Int32) (h_lotsDone : Int32) (h_lotsNone : Int32) (h_fields_wishes : Nat → Int32) (h_fields_lefts : Nat → Int32) (h_weathers : Nat → Int32) (h_path : Nat → Int32) (h_best : Nat → Int32) (f_above : Int64) (f_below : Int64) (rf : Nat → Int32) : va_W := [(a, .inr (0, [.ref (u 0), .ref (u 9), .ref (u 18), .int hk, .ref (u 27), .ref (u 37), .ref (u 39), .ref (u 41), .ref (u 48), .ref (u 49)])), ((u 0), .inr (1, [.ref (u 1), .ref (u 2), .ref (u 3), .ref (u 4), .int th, .ref (u 5), .int dy, .ref (u 6), .int dn])), ((u 1), .inl (cI, 6, .inl wt)), ((u 2), .inl (cI, 8, .inl kd)), ((u 3), .inl (cI, 8, .inl fg)), ((u 4), .inl (cI, 8, .inl go)), ((u 5), .inl (cI, 8, .inl hm)), ((u 6), .inr (2, [.ref (u 7), .ref (u 8)])), ((u 7), .inl (cI, 4, .inl wi)), ((u 8), .inl (cI, 4, .inl lf)), ((u 9), .inr (1, [.ref (u 10), .ref (u 11), .ref (u 12), .ref (u 13), .int kth, .ref (u 14), .int kdy, .ref (u 15), .int kdn])), ((u 10), .inl (cI, 6, .inl kwt)), ((u 11), .inl (cI, 8, .inl kkd)), ((u 12), .inl (cI, 8, .inl kfg)), ((u 13), .inl (cI, 8, .inl kgo)), ((u 14), .inl (cI, 8, .inl khm)), ((u 15), .inr (2, [.ref (u 16), .ref (u 17)])), ((u 16), .inl (cI, 4, .inl kwi)), ((u 17), .inl (cI, 4, .inl klf)), ((u 18), .inr (1, [.ref (u 19), .ref (u 20), .ref (u 21), .ref (u 22), .int tth, .ref (u 23), .int tdy, .ref (u 24), .int tdn])), ((u 19), .inl (cI, 6, .inl twt)), ((u 20), .inl (cI, 8, .inl tkd)), ((u 21), .inl (cI, 8, .inl tfg)), ((u 22), .inl (cI, 8, .inl tgo)), ((u 23), .inl (cI, 8, .inl thm)), ((u 24), .inr (2, [.ref (u 25), .ref (u 26)])), ((u 25), .inl (cI, 4, .inl twi)), ((u 26), .inl (cI, 4, .inl tlf)), ((u 27), .inr (3, [.ref (u 28), .int sc])), ((u 28), .inl (cS, 8, .inr (.inr (.inr (.inr (fun i => some (u (29 + sg i)))))))), ((u 29), .inr (4, [.int (sp 0), .int (sl 0), .int (sb 0), .int (sf 0), .int (sd 0)])), ((u 30), .inr (4, [.int (sp 1), .int (sl 1), .int (sb 1), .int (sf 1), .int (sd 1)])), ((u 31), .inr (4, [.int (sp 2), .int (sl 2), .int (sb 2), .int (sf 2), .int (sd 2)])), ((u 32), .inr (4, [.int (sp 3), .int (sl 3), .int (sb 3), .int (sf 3), .int (sd 3)])), ((u 33), .inr (4, [.int (sp 4), .int (sl 4), .int (sb 4), .int (sf 4), .int (sd 4)])), ((u 34), .inr (4, [.int (sp 5), .int (sl 5), .int (sb 5), .int (sf 5), .int (sd 5)])), ((u 35), .inr (4, [.int (sp 6), .int (sl 6), .int (sb 6), .int (sf 6), .int (sd 6)])), ((u 36), .inr (4, [.int (sp 7), .int (sl 7), .int (sb 7), .int (sf 7), .int (sd 7)])), ((u 37), .inr (5, [.ref (u 38), .int lc])), ((u 38), .inl (cI, 96, .inl lt)), ((u 39), .inr (6, [.ref (u 40), .int nc])), ((u 40), .inl (cI, 12, .inl nu)), ((u 41), .inr (7, [.ref (u 42), .ref (u 45), .int h_days, .ref (u 46), .ref (u 47), .int h_counted, .int h_atMost, .int h_most, .int h_oneIn, .int h_lotsDone, .int h_lotsNone])), ((u 42), .inr (2, [.ref (u 43), .ref (u 44)])), ((u 43), .inl (cI, 4, .inl h_fields_wishes)), ((u 44), .inl (cI, 4, .inl h_fields_lefts)), ((u 45), .inl (cI, 8, .inl h_weathers)), ((u 46), .inl (cI, 8, .inl h_path)), ((u 47), .inl (cI, 8, .inl h_best)), ((u 48), .inr (8, [.long f_above, .long f_below])), ((u 49), .inl (cI, 7, .inl rf))]
def wM (cI : ClassId) (b2 : Nat) (v : Nat → Nat) (th : Int32) (dy : Int32) (dn : Int32) (m_thrown : Int32) (lc : Int32) (m_at : Int32) (m_isBad : Int32) (m_statements : Int32) (hk : Int32) (m_place0 : Int32) (m_isTaking : Int32) (m_keptIn : Int32) (sc : Int32) (nc : Int32) (m_seed : Int32) (wt : Nat → Int32) (kd : Nat → Int32) (fg : Nat → Int32) (hm : Nat → Int32) (wi : Nat → Int32) (lf : Nat → Int32) (rf : Nat → Int32) (lt : Nat → Int32) (m_placeIn : Nat → Int32) (m_letterOf : Nat → Int32) (m_told : Nat → Int32) (m_kept : Nat → Int32) (im : Nat → Int32) (tu : Nat → Int32) (m_turnOf : Nat → Int32) (m_order0 : Nat → Int32) (m_likely0 : Nat → Int32) (m_leftThen : Nat → Int32) (nu : Nat → Int32) : va_W := [(b2, .inr (9, [.ref (v 0), .int th, .ref (v 1), .ref (v 2), .int dy, .ref (v 3), .ref (v 4), .ref (v 5), .int dn, .int m_thrown, .ref (v 6), .ref (v 7), .int lc, .int m_at, .int m_isBad, .int m_statements, .ref (v 8), .ref (v 9), .ref (v 10), .ref (v 11), .ref (v 12), .int hk, .int m_place0, .int m_isTaking, kvf v m_keptIn, .ref (v 13), .ref (v 14), .int sc, .ref (v 15), .ref (v 16), .ref (v 17), .ref (v 18), .int nc, .int m_seed])), ((v 0), .inl (cI, 6, .inl wt)), ((v 1), .inl (cI, 8, .inl kd)), ((v 2), .inl (cI, 8, .inl fg)), ((v 3), .inl (cI, 8, .inl hm)), ((v 4), .inl (cI, 4, .inl wi)), ((v 5), .inl (cI, 4, .inl lf)), ((v 6), .inl (cI, 7, .inl rf)), ((v 7), .inl (cI, 96, .inl lt)), ((v 8), .inl (cI, 49, .inl m_placeIn)), ((v 9), .inl (cI, 49, .inl m_letterOf)), ((v 10), .inl (cI, 147, .inl m_told)), ((v 11), .inl (cI, 41, .inl m_kept)), ((v 12), .inl (cI, 41, .inl im)), ((v 13), .inl (cI, 328, .inl tu)), ((v 14), .inl (cI, 41, .inl m_turnOf)), ((v 15), .inl (cI, 8, .inl m_order0)), ((v 16), .inl (cI, 8, .inl m_likely0)), ((v 17), .inl (cI, 4, .inl m_leftThen)), ((v 18), .inl (cI, 12, .inl nu))]
def LW (s : State) (D : va_G) (cI cS : ClassId) (a : Nat) (u : Nat → Nat) (b2 : Nat) (v : Nat → Nat) (H : Heap) (locs : List Loc) : Prop := ∃ (hk : Int32) (th : Int32) (dy : Int32) (dn : Int32) (wt : Nat → Int32) (kd : Nat → Int32) (fg : Nat → Int32) (go : Nat → Int32) (hm : Nat → Int32) (wi : Nat → Int32) (lf : Nat → Int32) (kth : Int32) (kdy : Int32) (kdn : Int32) (kwt : Nat → Int32) (kkd : Nat → Int32) (kfg : Nat → Int32) (kgo : Nat → Int32) (khm : Nat → Int32) (kwi : Nat → Int32) (klf : Nat → Int32) (tth : Int32) (tdy : Int32) (tdn : Int32) (twt : Nat → Int32) (tkd : Nat → Int32) (tfg : Nat → Int32) (tgo : Nat → Int32) (thm : Nat → Int32) (twi : Nat → Int32) (tlf : Nat → Int32) (sc : Int32) (sg : Nat → Nat) (sp : Nat → Int32) (sl : Nat → Int32) (sb : Nat → Int32) (sf : Nat → Int32) (sd : Nat → Int32) (lc : Int32) (lt : Nat → Int32) (nc : Int32) (nu : Nat → Int32) (h_days : Int32) (h_counted : Int32) (h_atMost : Int32) (h_most : Int32) (h_oneIn : Int32) (h_lotsDone : Int32) (h_lotsNone : Int32) (h_fields_wishes : Nat → Int32) (h_fields_lefts : Nat → Int32) (h_weathers : Nat → Int32) (h_path : Nat → Int32) (h_best : Nat → Int32) (f_above : Int64) (f_below : Int64) (rf : Nat → Int32) (m_thrown : Int32) (m_at : Int32) (m_isBad : Int32) (m_statements : Int32) (m_place0 : Int32) (m_isTaking : Int32) (m_keptIn : Int32) (m_seed : Int32) (m_placeIn : Nat → Int32) (m_letterOf : Nat → Int32) (m_told : Nat → Int32) (m_kept : Nat → Int32) (im : Nat → Int32) (tu : Nat → Int32) (m_turnOf : Nat → Int32) (m_order0 : Nat → Int32) (m_likely0 : Nat → Int32) (m_leftThen : Nat → Int32), Inv th dy dn wt kd fg go hm wi lf hk kth kdy kdn kwt kkd kfg kgo khm kwi klf im sc sg sp sl sb sf sd tu lt lc nu nc ∧ wd (fun q => s.heap.size ≤ q) s.heap D ((wC cI cS a u hk th dy dn wt kd fg go hm wi lf kth kdy kdn kwt kkd kfg kgo khm kwi klf tth tdy tdn twt tkd tfg tgo thm twi tlf sc sg sp sl sb sf sd lc lt nc nu h_days h_counted h_atMost h_most h_oneIn h_lotsDone h_lotsNone h_fields_wishes h_fields_lefts h_weathers h_path h_best f_above f_below rf) ++ (wM cI b2 v th dy dn m_thrown lc m_at m_isBad m_statements hk m_place0 m_isTaking m_keptIn sc nc m_seed wt kd fg hm wi lf rf lt m_placeIn m_letterOf m_told m_kept im tu m_turnOf m_order0 m_likely0 m_leftThen nu)) H locs
def lcx (p : Program) (s : State) (m : MethodId) (meth : Method) (c : Code) (D : va_G) (cI cS : ClassId) (b L : Nat) (xs : Nat → Int32) : Prop := cx p s m #[Value.ref b] meth c code 4 R_law D (kTy cI cS) (Cond.initialized "HamperByWeather") ∧ va_X b L xs s s.heap ∧ b < s.heap.size
theorem capL (X Y : va_W) (is : List Nat) {w0 : va_W} (h : is.map (fun i => X[i]?) = w0.map some) : is.map (fun i => (X ++ Y)[i]?) = w0.map some := by
  rw [← h]
  apply List.map_congr_left
  intro i hi
  have h1 : X[i]? ∈ w0.map some := by rw [← h]; exact List.mem_map.mpr ⟨i, hi, rfl⟩
  obtain ⟨x, -, hx⟩ := List.mem_map.mp h1
  exact List.getElem?_append_left (List.getElem?_eq_some_iff.mp hx.symm).1
theorem capR (X Y : va_W) (is : List Nat) {w0 : va_W} (h : is.map (fun i => Y[i]?) = w0.map some) : (is.map (fun i => i + X.length)).map (fun i => (X ++ Y)[i]?) = w0.map some := by
  rw [← h, List.map_map]
  apply List.map_congr_left
  intro i hi
  show (X ++ Y)[i + X.length]? = _
  rw [List.getElem?_append_right (by omega)]
  congr 1
  omega
theorem ndL (X : va_W) (is : List Nat) (h : va_nd is = true) : va_nd is = true := h
theorem ndR (X : va_W) (is : List Nat) (h : va_nd is = true) : va_nd (is.map (fun i => i + X.length)) = true := by
  induction is with
  | nil => rfl
  | cons a l ih =>
    simp only [va_nd, Bool.and_eq_true, decide_eq_true_eq, List.map_cons] at h ⊢
    refine ⟨fun hm => h.1 ?_, ih h.2⟩
    obtain ⟨b, hb, e⟩ := List.mem_map.mp hm
    have : b = a := by omega
    rw [← this]; exact hb
theorem rcvL (X Y : va_W) {x : Nat × va_E} (h : X[0]? = some x) : (X ++ Y)[0]? = some x := by
  rw [List.getElem?_append_left (List.getElem?_eq_some_iff.mp h).1]; exact h
theorem rcvR (X Y : va_W) {x : Nat × va_E} (h : Y[0]? = some x) : (X ++ Y)[X.length]? = some x := by
  rw [List.getElem?_append_right (by omega), Nat.sub_self]; exact h
theorem kPutF_app (is : List Nat) (w1 : va_W) : ∀ (X Y : va_W) (n : Nat), kPutF is w1 n (X ++ Y) = kPutF is w1 n X ++ kPutF is w1 (n + X.length) Y
  | [], Y, n => by simp [kPutF]
  | x :: X, Y, n => by
    show kSel is w1 n x :: kPutF is w1 (n + 1) (X ++ Y) = _
    rw [kPutF_app is w1 X Y (n + 1), show n + 1 + X.length = n + (x :: X).length by simp; omega]
    rfl
theorem kSel_out : ∀ (is : List Nat) (w1 : va_W) (k : Nat) (q : Nat × va_E), k ∉ is → kSel is w1 k q = q
  | [], w1, k, q, _ => by cases w1 <;> rfl
  | i :: is, [], k, q, _ => rfl
  | i :: is, x :: xs, k, q, h => by
    have hb : Nat.beq k i = false := by
      cases hz : Nat.beq k i with
      | true => exact absurd (List.mem_cons.mpr (Or.inl (Nat.eq_of_beq_eq_true hz))) h
      | false => rfl
    simp only [kSel, hb]
    exact kSel_out is xs k q (fun h2 => h (List.mem_cons_of_mem _ h2))
theorem kPutF_out (is : List Nat) (w1 : va_W) : ∀ (Y : va_W) (n : Nat), (∀ i ∈ is, i < n ∨ n + Y.length ≤ i) → kPutF is w1 n Y = Y
  | [], n, _ => rfl
  | y :: Y, n, h => by
    show kSel is w1 n y :: kPutF is w1 (n + 1) Y = _
    rw [kSel_out is w1 n y (fun hm => by have h2 := h n hm; simp only [List.length_cons] at h2; omega), kPutF_out is w1 Y (n + 1) (fun i hi => by have h2 := h i hi; simp only [List.length_cons] at h2; omega)]
theorem kSel_shift (w : Nat) : ∀ (is : List Nat) (w1 : va_W) (k : Nat) (q : Nat × va_E), kSel (is.map (fun i => i + w)) w1 (k + w) q = kSel is w1 k q
  | [], w1, k, q => by cases w1 <;> rfl
  | i :: is, [], k, q => rfl
  | i :: is, x :: xs, k, q => by
    have hb : Nat.beq (k + w) (i + w) = Nat.beq k i := by
      cases hz : Nat.beq k i with
      | true => rw [Nat.eq_of_beq_eq_true hz]; simp
      | false =>
        cases hy : Nat.beq (k + w) (i + w) with
        | true =>
          have := Nat.eq_of_beq_eq_true hy
          have e : k = i := by omega
          rw [e] at hz
          simp at hz
        | false => rfl
    show (match Nat.beq (k + w) (i + w) with | true => x | false => kSel (is.map _) xs (k + w) q) = match Nat.beq k i with | true => x | false => kSel is xs k q
    rw [hb, kSel_shift w is xs k q]
theorem kPutF_shift (w : Nat) (is : List Nat) (w1 : va_W) : ∀ (Y : va_W) (n : Nat), kPutF (is.map (fun i => i + w)) w1 (n + w) Y = kPutF is w1 n Y
  | [], n => rfl
  | y :: Y, n => by
    show kSel (is.map _) w1 (n + w) y :: kPutF (is.map _) w1 (n + w + 1) Y = kSel is w1 n y :: kPutF is w1 (n + 1) Y
    rw [kSel_shift, show n + w + 1 = n + 1 + w by omega, kPutF_shift w is w1 Y (n + 1)]
theorem putL (X Y : va_W) (is : List Nat) (w1 : va_W) {X' : va_W} (h : kPut X is w1 = X') (hl : ∀ i ∈ is, i < X.length) : kPut (X ++ Y) is w1 = X' ++ Y := by
  unfold kPut at h ⊢
  rw [kPutF_app, h, kPutF_out is w1 Y _ (fun i hi => Or.inl (by have := hl i hi; omega))]
theorem putR (X Y : va_W) (is : List Nat) (w1 : va_W) {Y' : va_W} (h : kPut Y is w1 = Y') : kPut (X ++ Y) (is.map (fun i => i + X.length)) w1 = X ++ Y' := by
  unfold kPut at h ⊢
  rw [kPutF_app, kPutF_out _ w1 X 0 (fun i hi => by
    obtain ⟨j, -, e⟩ := List.mem_map.mp hi
    exact Or.inr (by omega)), kPutF_shift X.length is w1 Y 0, h]
theorem ltL (X : va_W) (is : List Nat) {w0 : va_W} (h : is.map (fun i => X[i]?) = w0.map some) : ∀ i ∈ is, i < X.length := by
  intro i hi
  have h1 : X[i]? ∈ w0.map some := by rw [← h]; exact List.mem_map.mpr ⟨i, hi, rfl⟩
  obtain ⟨x, -, hx⟩ := List.mem_map.mp h1
  exact (List.getElem?_eq_some_iff.mp hx.symm).1
theorem sc_in1 {i L : Nat} (h : i + 4 ≤ L) (hL : L ≤ 2048) : vp_in (nI i + 1) L := by
  rw [nI_1]; exact vp_in_nI (by omega) (by omega)
theorem sc_in2 {i L : Nat} (h : i + 4 ≤ L) (hL : L ≤ 2048) : vp_in (nI i + 2) L := by
  rw [show nI i + 2 = nI (i + 2) from nI_add i 2]; exact vp_in_nI (by omega) (by omega)
theorem sc_in3 {i L : Nat} (h : i + 4 ≤ L) (hL : L ≤ 2048) : vp_in (nI i + 3) L := by
  rw [show nI i + 3 = nI (i + 3) from nI_add i 3]; exact vp_in_nI (by omega) (by omega)
theorem sc_in0 {i L : Nat} (h : i + 4 ≤ L) (hL : L ≤ 2048) : vp_in (nI i) L := vp_in_nI (by omega) (by omega)
theorem lg_cmp_self (x : Int64) : lg_cmp x x = 0 := by
  unfold lg_cmp
  rw [if_neg (by simp [Int64.lt_iff_toInt_lt]), if_pos rfl]
theorem qm_law_13 : Cond.methodLink R_law 13 y_H_feed ∈ lw_g := q_at (i := 301) (by decide +kernel) rfl
theorem qm_law_17 : Cond.methodLink R_law 17 y_M_feed ∈ lw_g := q_at (i := 1077) (by decide +kernel) rfl
theorem qm_law_18 : Cond.methodLink R_law 18 y_H_hall ∈ lw_g := q_at (i := 313) (by decide +kernel) rfl
theorem qm_law_22 : Cond.methodLink R_law 22 y_M_hall ∈ lw_g := q_at (i := 1085) (by decide +kernel) rfl
theorem qm_law_23 : Cond.methodLink R_law 23 y_H_thingOf ∈ lw_g := q_at (i := 464) (by decide +kernel) rfl
theorem qm_law_27 : Cond.methodLink R_law 27 y_M_thingOf ∈ lw_g := q_at (i := 1187) (by decide +kernel) rfl
theorem qm_law_28 : Cond.methodLink R_law 28 y_H_dayOf ∈ lw_g := q_at (i := 478) (by decide +kernel) rfl
theorem qm_law_31 : Cond.methodLink R_law 31 y_M_dayOf ∈ lw_g := q_at (i := 1200) (by decide +kernel) rfl
theorem qm_law_32 : Cond.methodLink R_law 32 y_H_fieldOf ∈ lw_g := q_at (i := 495) (by decide +kernel) rfl
theorem qm_law_35 : Cond.methodLink R_law 35 y_M_fieldOf ∈ lw_g := q_at (i := 1212) (by decide +kernel) rfl
theorem qm_law_36 : Cond.methodLink R_law 36 y_H_weight ∈ lw_g := q_at (i := 500) (by decide +kernel) rfl
theorem qm_law_39 : Cond.methodLink R_law 39 y_M_weight ∈ lw_g := q_at (i := 1217) (by decide +kernel) rfl
theorem qm_law_40 : Cond.methodLink R_law 40 y_H_thing ∈ lw_g := q_at (i := 505) (by decide +kernel) rfl
theorem qm_law_43 : Cond.methodLink R_law 43 y_M_thing ∈ lw_g := q_at (i := 1222) (by decide +kernel) rfl
theorem qm_law_44 : Cond.methodLink R_law 44 y_H_day ∈ lw_g := q_at (i := 511) (by decide +kernel) rfl
theorem qm_law_47 : Cond.methodLink R_law 47 y_M_day ∈ lw_g := q_at (i := 1229) (by decide +kernel) rfl
theorem qm_law_48 : Cond.methodLink R_law 48 y_H_weighs ∈ lw_g := q_at (i := 517) (by decide +kernel) rfl
theorem qm_law_51 : Cond.methodLink R_law 51 y_M_weighs ∈ lw_g := q_at (i := 1233) (by decide +kernel) rfl
theorem qm_law_52 : Cond.methodLink R_law 52 y_H_packs ∈ lw_g := q_at (i := 544) (by decide +kernel) rfl
theorem qm_law_55 : Cond.methodLink R_law 55 y_M_packs ∈ lw_g := q_at (i := 1241) (by decide +kernel) rfl
theorem qm_law_56 : Cond.methodLink R_law 56 y_H_wants ∈ lw_g := q_at (i := 555) (by decide +kernel) rfl
theorem qm_law_60 : Cond.methodLink R_law 60 y_M_wants ∈ lw_g := q_at (i := 1245) (by decide +kernel) rfl
theorem qm_law_61 : Cond.methodLink R_law 61 y_H_spends ∈ lw_g := q_at (i := 566) (by decide +kernel) rfl
theorem qm_law_64 : Cond.methodLink R_law 64 y_M_spends ∈ lw_g := q_at (i := 1249) (by decide +kernel) rfl
theorem qm_law_65 : Cond.methodLink R_law 65 y_H_back ∈ lw_g := q_at (i := 574) (by decide +kernel) rfl
theorem qm_law_68 : Cond.methodLink R_law 68 y_M_back ∈ lw_g := q_at (i := 1183) (by decide +kernel) rfl
theorem qm_law_69 : Cond.methodLink R_law 69 y_H_odds ∈ lw_g := q_at (i := 585) (by decide +kernel) rfl
theorem qm_law_73 : Cond.methodLink R_law 73 y_M_odds ∈ lw_g := q_at (i := 1253) (by decide +kernel) rfl
theorem qm_law_74 : Cond.methodLink R_law 74 y_H_looks ∈ lw_g := q_at (i := 613) (by decide +kernel) rfl
theorem qm_law_77 : Cond.methodLink R_law 77 y_M_looks ∈ lw_g := q_at (i := 1271) (by decide +kernel) rfl
theorem qm_law_78 : Cond.methodLink R_law 78 y_H_pack ∈ lw_g := q_at (i := 628) (by decide +kernel) rfl
theorem qm_law_81 : Cond.methodLink R_law 81 y_M_pack ∈ lw_g := q_at (i := 1278) (by decide +kernel) rfl
theorem qm_law_82 : Cond.methodLink R_law 82 y_H_rope ∈ lw_g := q_at (i := 640) (by decide +kernel) rfl
theorem qm_law_85 : Cond.methodLink R_law 85 y_M_rope ∈ lw_g := q_at (i := 1282) (by decide +kernel) rfl
theorem qm_law_86 : Cond.methodLink R_law 86 y_H_wanted ∈ lw_g := q_at (i := 649) (by decide +kernel) rfl
theorem qm_law_89 : Cond.methodLink R_law 89 y_M_wanted ∈ lw_g := q_at (i := 1286) (by decide +kernel) rfl
theorem qm_law_90 : Cond.methodLink R_law 90 y_H_apart ∈ lw_g := q_at (i := 658) (by decide +kernel) rfl
theorem qm_law_93 : Cond.methodLink R_law 93 y_M_apart ∈ lw_g := q_at (i := 1290) (by decide +kernel) rfl
theorem qm_law_94 : Cond.methodLink R_law 94 y_H_tell ∈ lw_g := q_at (i := 665) (by decide +kernel) rfl
theorem qm_law_97 : Cond.methodLink R_law 97 y_M_tell ∈ lw_g := q_at (i := 1294) (by decide +kernel) rfl
theorem qm_law_98 : Cond.methodLink R_law 98 y_H_codes ∈ lw_g := q_at (i := 676) (by decide +kernel) rfl
theorem qm_law_101 : Cond.methodLink R_law 101 y_M_codes ∈ lw_g := q_at (i := 1298) (by decide +kernel) rfl
theorem qm_law_102 : Cond.methodLink R_law 102 y_H_smallest ∈ lw_g := q_at (i := 689) (by decide +kernel) rfl
theorem qm_law_105 : Cond.methodLink R_law 105 y_M_smallest ∈ lw_g := q_at (i := 1302) (by decide +kernel) rfl
theorem qm_law_106 : Cond.methodLink R_law 106 y_H_eggAndRope ∈ lw_g := q_at (i := 694) (by decide +kernel) rfl
theorem qm_law_109 : Cond.methodLink R_law 109 y_M_eggAndRope ∈ lw_g := q_at (i := 1306) (by decide +kernel) rfl
theorem qm_law_110 : Cond.methodLink R_law 110 y_H_gotIn ∈ lw_g := q_at (i := 701) (by decide +kernel) rfl
theorem qm_law_113 : Cond.methodLink R_law 113 y_M_gotIn ∈ lw_g := q_at (i := 1310) (by decide +kernel) rfl
theorem qm_law_114 : Cond.methodLink R_law 114 y_H_order ∈ lw_g := q_at (i := 725) (by decide +kernel) rfl
theorem qm_law_117 : Cond.methodLink R_law 117 y_M_order ∈ lw_g := q_at (i := 1326) (by decide +kernel) rfl
theorem qm_law_118 : Cond.methodLink R_law 118 y_H_plan ∈ lw_g := q_at (i := 765) (by decide +kernel) rfl
theorem qm_law_121 : Cond.methodLink R_law 121 y_M_plan ∈ lw_g := q_at (i := 1341) (by decide +kernel) rfl
theorem qm_law_122 : Cond.methodLink R_law 122 y_H_spare ∈ lw_g := q_at (i := 773) (by decide +kernel) rfl
theorem qm_law_125 : Cond.methodLink R_law 125 y_M_spare ∈ lw_g := q_at (i := 1345) (by decide +kernel) rfl
theorem qm_law_126 : Cond.methodLink R_law 126 y_H_whatKind ∈ lw_g := q_at (i := 782) (by decide +kernel) rfl
theorem qm_law_129 : Cond.methodLink R_law 129 y_M_whatKind ∈ lw_g := q_at (i := 1349) (by decide +kernel) rfl
theorem qm_law_130 : Cond.methodLink R_law 130 y_H_worth ∈ lw_g := q_at (i := 803) (by decide +kernel) rfl
theorem qm_law_134 : Cond.methodLink R_law 134 y_M_worth ∈ lw_g := q_at (i := 1357) (by decide +kernel) rfl
theorem qm_law_135 : Cond.methodLink R_law 135 y_H_bet ∈ lw_g := q_at (i := 812) (by decide +kernel) rfl
theorem qm_law_138 : Cond.methodLink R_law 138 y_M_bet ∈ lw_g := q_at (i := 1361) (by decide +kernel) rfl
theorem qm_law_139 : Cond.methodLink R_law 139 y_H_wrong ∈ lw_g := q_at (i := 822) (by decide +kernel) rfl
theorem qm_law_142 : Cond.methodLink R_law 142 y_M_wrong ∈ lw_g := q_at (i := 1368) (by decide +kernel) rfl
theorem qm_law_143 : Cond.methodLink R_law 143 y_H_lightest ∈ lw_g := q_at (i := 841) (by decide +kernel) rfl
theorem qm_law_146 : Cond.methodLink R_law 146 y_M_lightest ∈ lw_g := q_at (i := 1372) (by decide +kernel) rfl
theorem qm_law_147 : Cond.methodLink R_law 147 y_H_swap ∈ lw_g := q_at (i := 850) (by decide +kernel) rfl
theorem qm_law_150 : Cond.methodLink R_law 150 y_M_swap ∈ lw_g := q_at (i := 1376) (by decide +kernel) rfl
theorem qm_law_151 : Cond.methodLink R_law 151 y_H_often ∈ lw_g := q_at (i := 864) (by decide +kernel) rfl
theorem qm_law_154 : Cond.methodLink R_law 154 y_M_often ∈ lw_g := q_at (i := 1384) (by decide +kernel) rfl
theorem qm_law_155 : Cond.methodLink R_law 155 y_H_sure ∈ lw_g := q_at (i := 875) (by decide +kernel) rfl
theorem qm_law_158 : Cond.methodLink R_law 158 y_M_sure ∈ lw_g := q_at (i := 1388) (by decide +kernel) rfl
theorem qm_law_159 : Cond.methodLink R_law 159 y_H_mean ∈ lw_g := q_at (i := 883) (by decide +kernel) rfl
theorem qm_law_163 : Cond.methodLink R_law 163 y_M_mean ∈ lw_g := q_at (i := 1392) (by decide +kernel) rfl
theorem qm_law_164 : Cond.methodLink R_law 164 y_H_need ∈ lw_g := q_at (i := 890) (by decide +kernel) rfl
theorem qm_law_167 : Cond.methodLink R_law 167 y_M_need ∈ lw_g := q_at (i := 1396) (by decide +kernel) rfl
theorem qm_law_168 : Cond.methodLink R_law 168 y_H_drop ∈ lw_g := q_at (i := 904) (by decide +kernel) rfl
theorem qm_law_171 : Cond.methodLink R_law 171 y_M_drop ∈ lw_g := q_at (i := 1401) (by decide +kernel) rfl
theorem qm_law_172 : Cond.methodLink R_law 172 y_H_row ∈ lw_g := q_at (i := 914) (by decide +kernel) rfl
theorem qm_law_175 : Cond.methodLink R_law 175 y_M_row ∈ lw_g := q_at (i := 1405) (by decide +kernel) rfl
theorem qm_law_176 : Cond.methodLink R_law 176 y_H_judge ∈ lw_g := q_at (i := 922) (by decide +kernel) rfl
theorem qm_law_179 : Cond.methodLink R_law 179 y_M_judge ∈ lw_g := q_at (i := 1409) (by decide +kernel) rfl
theorem qm_law_180 : Cond.methodLink R_law 180 y_H_clear ∈ lw_g := q_at (i := 932) (by decide +kernel) rfl
theorem qm_law_183 : Cond.methodLink R_law 183 y_M_clear ∈ lw_g := q_at (i := 1413) (by decide +kernel) rfl
theorem qm_law_184 : Cond.methodLink R_law 184 y_H_lots ∈ lw_g := q_at (i := 936) (by decide +kernel) rfl
theorem qm_law_187 : Cond.methodLink R_law 187 y_M_lots ∈ lw_g := q_at (i := 1417) (by decide +kernel) rfl
theorem qm_law_188 : Cond.methodLink R_law 188 y_H_image ∈ lw_g := q_at (i := 951) (by decide +kernel) rfl
theorem qm_law_191 : Cond.methodLink R_law 191 y_M_image ∈ lw_g := q_at (i := 1175) (by decide +kernel) rfl
theorem qm_law_192 : Cond.methodLink R_law 192 y_H_restore ∈ lw_g := q_at (i := 955) (by decide +kernel) rfl
theorem qm_law_195 : Cond.methodLink R_law 195 y_M_restore ∈ lw_g := q_at (i := 1179) (by decide +kernel) rfl
theorem qm_law_196 : Cond.methodLink R_law 196 y_H_count ∈ lw_g := q_at (i := 959) (by decide +kernel) rfl
theorem qm_law_199 : Cond.methodLink R_law 199 y_M_count ∈ lw_g := q_at (i := 1428) (by decide +kernel) rfl
theorem qm_law_9 : Cond.methodLink R_law 9 y_H_init ∈ lw_g := q_at (i := 67) (by decide +kernel) rfl
theorem qm_law_12 : Cond.methodLink R_law 12 y_M_init ∈ lw_g := q_at (i := 970) (by decide +kernel) rfl
