-- MAKING: constructors
def rmn (d mc ms : Nat) : Room := { frames := d, cells := mc, slots := ms, locals := 60 * d }
def qN (D : va_G) (wf : (Nat → Nat) → va_W) (A : Nat → Prop) : Array Value → State → Outcome → State → Prop := va_Qv (fun (_ : Nat → Nat) => True) (fun u t => va_P D classes (wf u) t.heap ∧ va_D A (wf u)) A
def ctN (l : Launch) (y : MethodName) (cw : Cond) (d mc ms : Nat) (D : va_G) (tys : List (ClassId × FieldType)) (b ci : Nat) (fs : List Value) (wf : (Nat → Nat) → va_W) : Prop := ∀ sz : Nat, Met l y (cw :: lw_g) (rmn d mc ms) (va_Pc [.ref b] (kPre D tys [(b, .inr (ci, fs))] sz)) (qN D wf (va_A [(b, .inr (ci, fs))] sz)) mc ms (va_A [(b, .inr (ci, fs))] sz)
theorem ctN_of {l : Launch} {y : MethodName} {cc : ByteArray} {maxL d mc ms b ci : Nat} {ret : Option FieldType} {D : va_G} {tys : List (ClassId × FieldType)} {fs : List Value} {wf : (Nat → Nat) → va_W} (hy : plainName y.cls = true) (hlen : (lg_sl [Value.ref b]).length ≤ maxL)
    (body : ∀ (p : Program) (e : Env) (s : State) (m : MethodId) (below : List Frame) (meth : Method) (c : Code) (A : Nat → Prop), (∀ q, s.heap.size ≤ q → A q) → cx p s m ([.ref b] : List Value).toArray meth c cc maxL y.cls D tys (Cond.code y cc maxL ret) → meth.sig.returnType = ret → meth.name = y.name → ∀ ls : Array Slot, lv_has ls maxL (lv_args 0 [.ref b]) → wd A s.heap D [(b, .inr (ci, fs))] s.heap [] →
      W p l e (rmn d mc ms) s m ([.ref b] : List Value).toArray below meth c s.heap [] 0 0 (MQ below (qN D wf A) ([.ref b] : List Value).toArray s mc ms A) (F0 m 0 ls [])) : ctN l y (Cond.code y cc maxL ret) d mc ms D tys b ci fs wf := by
  intro sz
  refine Met.ofW (cc := cc) (maxL := maxL) (ret := ret) hy rfl ?_
  intro p e s m args below meth c s₁ B hml hv
  obtain ⟨rfl, hsz, hP, hK, hN, hD0⟩ := hv
  subst hsz
  have hl := lv_entry [Value.ref b] (n := maxL) hlen
  rw [lg_entry_eq]
  exact body p e s m below meth c _ (fun q h => Or.inr h) ⟨B.exec, B.bytes, hml, findClass_of_methodNamed B.named, atoms_spec (ws := Cond.code y cc maxL ret :: lw_g) B.pre, hK, B.notSynchronized, hN⟩ B.returns (name_of_methodNamed B.named B.method).1 _ hl ⟨hP, hD0.self, va_S.rf⟩
theorem va_nd_of : ∀ (l : List Nat), l.Nodup → va_nd l = true
  | [], _ => rfl
  | a :: l, h => by
    obtain ⟨h1, h2⟩ := List.nodup_cons.mp h
    simp [va_nd, h1, va_nd_of l h2]
theorem arr_agree {D : va_G} {cA : ClassId} {n a : Nat} {f g : Nat → Option Nat} {H : Heap} (h : va_at D classes (a, .inl (cA, n, .inr (.inr (.inr (.inr f))))) H) (hfg : ∀ i, i < n → f i = g i) : va_at D classes (a, .inl (cA, n, .inr (.inr (.inr (.inr g))))) H := by
  show H[a]? = some (vp_cell _ _)
  have e : vp_cell cA (n, .inr (.inr (.inr (.inr g)))) = vp_cell cA (n, .inr (.inr (.inr (.inr f)))) := by
    rw [vp_cell_q, vp_cell_q]
    have e2 : (Array.ofFn (n := n) fun j => va_rf (g j.val)) = Array.ofFn (n := n) fun j => va_rf (f j.val) := by
      congr 1
      funext j
      rw [hfg j.val j.isLt]
    show ({ cls := cA, slots := Array.ofFn (n := n) fun j => va_rf (g j.val), vm := .none } : Cell) = { cls := cA, slots := Array.ofFn (n := n) fun j => va_rf (f j.val), vm := .none }
    rw [e2]
  rw [e]
  exact h
theorem wd_agree {A : Nat → Prop} {H0 H : Heap} {D : va_G} {ws : va_W} {locs : List Loc} (hW : wd A H0 D ws H locs) (q0 : Nat) {cA : ClassId} {n a : Nat} {f g : Nat → Option Nat} (he : ws[q0]? = some (a, .inl (cA, n, .inr (.inr (.inr (.inr f)))))) (hfg : ∀ i, i < n → f i = g i) : wd A H0 D (ws.set q0 (a, .inl (cA, n, .inr (.inr (.inr (.inr g)))))) H locs := by
  obtain ⟨hP, hD, hS⟩ := hW
  exact ⟨hP.set hD he (arr_agree (hP q0 _ he) hfg) (fun _ _ => rfl), hD.set he, hS⟩
section KMAKE
variable {p : Program} {l : Launch} {e : Env} {R : Room} {s : State} {m : MethodId} {args : Array Value} {below : List Frame} {meth : Method} {c : Code} {H : Heap} {locs : List Loc} {cells slots : Nat} {Q : State → Prop}
variable {cc : ByteArray} {nL pc : Nat} {ls : Array Slot} {rest : List Value} {D : va_G} {A : Nat → Prop} {a : Nat} {tys : List (ClassId × FieldType)} {ws : va_W} {H0 : Heap} {own : String} {cw : Cond}
theorem k_obj {index : Nat} (C : cx p s m args meth c cc nL own D tys cw) (hlk : Cond.methodLink own index Lib.objectInit ∈ lw_g) (hi : Cond.instanceMethod Lib.objectInit ∈ lw_g) (hc : Cond.code Lib.objectInit ⟨#[0xb1]⟩ 1 none ∈ lw_g) (hsz : ls.size = nL) (hR : 1 ≤ R.frames ∧ (rest.map fun v => v.category).sum + 12 ≤ R.locals) (hdg : decode cc pc = .ok (.invokespecial index, 3))
    (kk : W p l e R s m args below meth c H locs cells slots Q (F0 m (pc + 3) ls rest)) : W p l e R s m args below meth c H locs cells slots Q (F0 m pc ls (.ref a :: rest)) := by
  obtain ⟨hx, hb, hml, hown, hts, hK, hlk2, hN⟩ := C
  have mem : ∀ {w : Cond}, w ∈ lw_g → w.before args s = true := fun h => hts _ (List.mem_cons_of_mem _ h)
  refine W.objInit hx hb hown (mem hlk) (mem hi) (mem hc) rfl (hsz.trans hml.symm) rfl hdg hR.1 (by show 2 * 0 + _ + 12 ≤ _; omega) ?_
  exact W.eq (g2 := F0 m (pc + 3) ls rest) rfl kk
theorem k_putF {K : String} {T : u_T} {N ci index : Nat} (hin : ∀ w ∈ u_ws K T N, w ∈ lw_g) {ty0 : Nat → FieldType} (hty : ∀ k, k < N → parseFieldDescriptor (T k).2.2.1 = some (ty0 k)) (hnm : ∀ a, a < N → ∀ b, b < N → a ≠ b → (T a).2.1 ≠ (T b).2.1) (C : cx p s m args meth c cc nL own D tys cw) (hname : meth.name = "<init>") (hW : wd A H0 D ws H locs) (q0 : Nat) {fs : List Value} (he : ws[q0]? = some (a, .inr (ci, fs))) (hc : classes[ci]? = some (K, T, N)) (k : Nat) (hk : k < N) (hlink : Cond.fieldLink own index K (T k).2.1 (T k).2.2.1 ∈ lw_g) (hs : (T k).1 = K) (ho : K = own) (hfin : (T k).2.2.2 = true) {ty : FieldType} {v : Value} (hd : ty0 k = ty) (hn : narrow ty v = v) (hfit : fits ty v = true) (hl : k < fs.length) {ws' : va_W} (hws : ws.set q0 (a, .inr (ci, fs.set k v)) = ws') (hdg : decode cc pc = .ok (.putfield index, 3))
    (kk : ∀ (H1 : Heap) (locs1 : List Loc), wd A H0 D ws' H1 locs1 → W p l e R s m args below meth c H1 locs1 cells slots Q (F0 m (pc + 3) ls rest)) : W p l e R s m args below meth c H locs cells slots Q (F0 m pc ls (v :: .ref a :: rest)) := by
  obtain ⟨hx, hb, hml, hown, hts, hK, hlk, hN⟩ := C
  subst hws
  exact va_putF (D := D) (cl := classes) hx hb hts (fun w h => List.mem_cons_of_mem _ (hin w h)) ty0 hty hnm hown hK hW.1 hW.2.1 hW.2.2 q0 he hc k hk (hts _ (List.mem_cons_of_mem _ hlink)) (fun x h => by rw [hs] at h; exact h) hfin hname (hs.trans ho) (ty := ty) (by rw [← hd]; exact hty k hk) hn hfit hl hdg (fun H1 locs1 h1 h2 h3 => kk H1 locs1 ⟨h1, h2, h3⟩)
theorem k_new {K : String} {T : u_T} {N ci index : Nat} (hin : ∀ w ∈ u_ws K T N, w ∈ lw_g) {ty0 : Nat → FieldType} (hty : ∀ k, k < N → parseFieldDescriptor (T k).2.2.1 = some (ty0 k)) (C : cx p s m args meth c cc nL own D tys cw) (hA : ∀ q, H0.size ≤ q → A q) (hW : wd A H0 D ws H locs) (hcl : Cond.classLink own index K ∈ lw_g) (hinst : Cond.instantiable K N ∈ lw_g) (hini : Cond.initialized K ∈ lw_g) (hc : classes[ci]? = some (K, T, N)) {fs : List Value} (hfs : ∀ j, j < N → defaultValue (ty0 j) = vp_V fs j) (hR : cells + 1 ≤ R.cells ∧ slots + N ≤ R.slots) (hdg : decode cc pc = .ok (.new index, 3))
    (kk : ∀ (q : Nat) (H1 : Heap), wd A H0 D (ws ++ [(q, .inr (ci, fs))]) H1 locs → W p l e R s m args below meth c H1 locs (cells + 1) (slots + N) Q (F0 m (pc + 3) ls (.ref q :: rest))) : W p l e R s m args below meth c H locs cells slots Q (F0 m pc ls rest) := by
  obtain ⟨hx, hb, hml, hown, hts, hK, hlk2, hN⟩ := C
  have mem : ∀ {w : Cond}, w ∈ lw_g → w.before args s = true := fun h => hts _ (List.mem_cons_of_mem _ h)
  exact va_new (D := D) (cl := classes) hx hb hts (fun w h => List.mem_cons_of_mem _ (hin w h)) ty0 hty hown (mem hcl) (mem hinst) (mem hini) hK hW.1 hW.2.1 hW.2.2 hA hc hfs hR.1 hR.2 hdg (fun q H1 h1 h2 h3 => kk q H1 ⟨h1, h2, h3⟩)
theorem k_newa {cI cS : ClassId} (C : cx p s m args meth c cc nL own D (kTy cI cS) cw) (hA : ∀ q, H0.size ≤ q → A q) (hW : wd A H0 D ws H locs) (harr : Cond.arrayClass .int ∈ lw_g) {n : Int32} {N : Nat} (hn : ¬ n < 0) (hN : n.toNatClampNeg = N) (hbytes : N * componentBytes .int ≤ 536870912) (hR : cells + 1 ≤ R.cells ∧ slots + N ≤ R.slots) (hdg : decode cc pc = .ok (.newarray .int, 2))
    (kk : ∀ (q : Nat) (H1 : Heap), wd A H0 D (ws ++ [(q, .inl (cI, N, .inl (fun _ => 0)))]) H1 locs → W p l e R s m args below meth c H1 locs (cells + 1) (slots + N) Q (F0 m (pc + 2) ls (.ref q :: rest))) : W p l e R s m args below meth c H locs cells slots Q (F0 m pc ls (.int n :: rest)) := by
  obtain ⟨hx, hb, hml, hown, hts, hK, hlk2, hNe⟩ := C
  have mem : ∀ {w : Cond}, w ∈ lw_g → w.before args s = true := fun h => hts _ (List.mem_cons_of_mem _ h)
  refine va_newa (D := D) (cl := classes) (atype := .int) hx hb (mem harr) (ty := .int) rfl hK hW.1 hW.2.1 hW.2.2 hA (a0 := (N, .inl (fun _ => 0))) (fun cA => rfl) hn hN hbytes hR.1 hR.2 hdg (fun q cA H1 h0 h1 h2 h3 => ?_)
  have e : cA = cI := by
    have e1 := (h0.2 2 (cA, .int) rfl).2
    have e2 := (h0.2 0 (cI, .int) rfl).2
    exact Option.some.inj (e1.symm.trans e2)
  subst e
  exact kk q H1 ⟨h1, h2, h3⟩
theorem k_newq {cI cS : ClassId} {index : Nat} (C : cx p s m args meth c cc nL own D (kTy cI cS) cw) (hA : ∀ q, H0.size ≤ q → A q) (hW : wd A H0 D ws H locs) (hcl : Cond.classLink own index "HamperByWeather$Step" ∈ lw_g) {n : Int32} {N : Nat} (hn : ¬ n < 0) (hN : n.toNatClampNeg = N) (hbytes : N * 4 ≤ 536870912) (hR : cells + 1 ≤ R.cells ∧ slots + N ≤ R.slots) (hdg : decode cc pc = .ok (.anewarray index, 3))
    (kk : ∀ (q : Nat) (H1 : Heap), wd A H0 D (ws ++ [(q, .inl (cS, N, .inr (.inr (.inr (.inr (fun _ => none))))))]) H1 locs → W p l e R s m args below meth c H1 locs (cells + 1) (slots + N) Q (F0 m (pc + 3) ls (.ref q :: rest))) : W p l e R s m args below meth c H locs cells slots Q (F0 m pc ls (.int n :: rest)) := by
  obtain ⟨hx, hb, hml, hown, hts, hK, hlk2, hNe⟩ := C
  have mem : ∀ {w : Cond}, w ∈ lw_g → w.before args s = true := fun h => hts _ (List.mem_cons_of_mem _ h)
  refine va_newq (D := D) (cl := classes) hx hb hown (mem hcl) hNe.2 hK hW.1 hW.2.1 hW.2.2 hA hn hN hbytes hR.1 hR.2 hdg (fun q cA H1 h0 h1 h2 h3 => ?_)
  have e : cA = cS := by
    obtain ⟨kA, comp, -, -, -, e1⟩ := (h0.2 2 (cA, .object "HamperByWeather$Step") rfl).2
    obtain ⟨kB, comp2, -, -, -, e2⟩ := (h0.2 1 (cS, .object "HamperByWeather$Step") rfl).2
    exact Option.some.inj (e1.symm.trans e2)
  subst e
  exact kk q H1 ⟨h1, h2, h3⟩
theorem k_aastO {cI cS : ClassId} (C : cx p s m args meth c cc nL own D (kTy cI cS) cw) (hW : wd A H0 D ws H locs) (q0 qk : Nat) {n ci v N : Nat} {T : u_T} {f : Nat → Option Nat} {vs : List Value} (ha : ws[q0]? = some (a, .inl (cS, n, .inr (.inr (.inr (.inr f)))))) (hv : ws[qk]? = some (v, .inr (ci, vs))) (hc : classes[ci]? = some ("HamperByWeather$Step", T, N)) {i : Int32} (hin : vp_in i n) {ws' : va_W} (hws : ws.set q0 (a, .inl (cS, n, .inr (.inr (.inr (.inr (va_up f i.toNatClampNeg (some v))))))) = ws') (hdg : decode cc pc = .ok (.aastore, 1))
    (kk : ∀ (H1 : Heap) (locs1 : List Loc), wd A H0 D ws' H1 locs1 → W p l e R s m args below meth c H1 locs1 cells slots Q (F0 m (pc + 1) ls rest)) : W p l e R s m args below meth c H locs cells slots Q (F0 m pc ls (.ref v :: .int i :: .ref a :: rest)) := by
  obtain ⟨hx, hb, hml, hown, hts, hK, hlk, hN⟩ := C
  subst hws
  exact va_astq (D := D) (cl := classes) hx hb hK hW.1 hW.2.1 hW.2.2 q0 1 qk ci (r := ("HamperByWeather$Step", T, N)) ha rfl hv hc hin hdg (fun H1 locs1 h1 h2 h3 => kk H1 locs1 ⟨h1, h2, h3⟩)
theorem k_vretN {w1 : va_W} {wf : (Nat → Nat) → va_W} {mc ms : Nat} (u : Nat → Nat) (C : cx p s m args meth c cc nL own D tys cw) (hr : meth.sig.returnType = none) (hW : wd A s.heap D w1 H locs) (hu : w1 = wf u) (hdg : decode cc pc = .ok (.return_, 1)) : W p l e R s m args below meth c H locs mc ms (MQ below (qN D wf A) args s mc ms A) (F0 m pc ls []) := by
  subst hu
  exact W.vret C.1 C.2.1 hr (fun t ht hW' => ⟨⟨u, rfl, trivial, by show va_P D classes (wf u) t.heap; rw [ht]; exact hW.1, hW.2.1⟩, hW.2.2.F ht⟩) hW.2.2.2.2 hdg C.2.2.2.2.2.2.1
theorem k_runI {y : MethodName} {bytes : ByteArray} {maxL index d mc ms b ci : Nat} {fs : List Value} {wf : (Nat → Nat) → va_W} {X : va_W} (C : cx p s m args meth c cc nL own D tys cw) (hW : wd A H0 D (X ++ [(b, .inr (ci, fs))]) H locs) (hMW : mW y bytes maxL none 0) (hI : Cond.instanceMethod y ∈ lw_g) (hy1 : y.name = "<init>") (M : ctN l y (Cond.code y bytes maxL none) d mc ms D tys b ci fs wf) (hlk : Cond.methodLink own index y ∈ lw_g) (hR : d + 1 ≤ R.frames ∧ 8 + (maxL + 11) + 60 * d ≤ R.locals ∧ cells + mc ≤ R.cells ∧ slots + ms ≤ R.slots) (hsum : (rest.map fun v => v.category).sum ≤ 8) (hsz : ls.size = nL) (hdg : decode cc pc = .ok (.invokespecial index, 3)) :
    va_Run p l e R s m args below meth c H locs cells slots mc ms (F0 m pc ls (.ref b :: rest)) rest (qN D wf (va_A [(b, .inr (ci, fs))] H.size) [Value.ref b].toArray) (va_A [(b, .inr (ci, fs))] H.size) := by
  obtain ⟨hx, hb, hml, hown, hts, hK, hlk2, hN⟩ := C
  obtain ⟨w1, w2, w3, w4, w5⟩ := hMW
  have hlast : (X ++ [(b, Sum.inr (ci, fs))] : va_W)[X.length]? = some (b, .inr (ci, fs)) := by simp
  have hcut := wd_cut hW [X.length] (w0 := [(b, .inr (ci, fs))]) (by simp) rfl
  have mem : ∀ {w : Cond}, w ∈ lw_g → w.before args s = true := fun h => hts _ (List.mem_cons_of_mem _ h)
  exact va_runI (own := own) (As := []) ⟨hx, hb, hml, hown, hts⟩ (M H.size) ⟨callB_of 0 hts (goodT w1) rfl rfl rfl (mem w2) (mem hlk) ⟨w3, w4, w5⟩ ⟨hR.1, hR.2.1⟩, hy1, mem hI⟩ ⟨kPre_blind _ _ _ _ _, fun U hU hWm => ⟨rfl, by rw [hU], by rw [hU]; exact hcut.1, va_K.moved hWm.alike hK, kN.warm hWm hN, hcut.2⟩⟩ rfl rfl hsz rfl (lv_room hsum) hdg ⟨hR.2.2.1, hR.2.2.2⟩
theorem k_runIN {y : MethodName} {host : String} {bytes : ByteArray} {maxL index d mc ms b ci : Nat} {fs : List Value} {wf : (Nat → Nat) → va_W} {X : va_W} (C : cx p s m args meth c cc nL own D tys cw) (hW : wd A H0 D (X ++ [(b, .inr (ci, fs))]) H locs) (hMW : mW y bytes maxL none 0) (hI : Cond.instanceMethod y ∈ lw_g) (hy1 : y.name = "<init>") (M : ctN l y (Cond.code y bytes maxL none) d mc ms D tys b ci fs wf) (hlk : Cond.methodLinkNest own index y host ∈ lw_tbl) (hR : d + 1 ≤ R.frames ∧ 8 + (maxL + 11) + 60 * d ≤ R.locals ∧ cells + mc ≤ R.cells ∧ slots + ms ≤ R.slots) (hsum : (rest.map fun v => v.category).sum ≤ 8) (hsz : ls.size = nL) (hdg : decode cc pc = .ok (.invokespecial index, 3)) :
    va_Run p l e R s m args below meth c H locs cells slots mc ms (F0 m pc ls (.ref b :: rest)) rest (qN D wf (va_A [(b, .inr (ci, fs))] H.size) [Value.ref b].toArray) (va_A [(b, .inr (ci, fs))] H.size) := by
  obtain ⟨hx, hb, hml, hown, hts, hK, hlk2, hN⟩ := C
  obtain ⟨w1, w2, w3, w4, w5⟩ := hMW
  have hcut := wd_cut hW [X.length] (w0 := [(b, .inr (ci, fs))]) (by simp) rfl
  have mem : ∀ {w : Cond}, w ∈ lw_g → w.before args s = true := fun h => hts _ (List.mem_cons_of_mem _ h)
  exact va_runIN (own := own) (As := []) ⟨hx, hb, hml, hown, hts⟩ (M H.size) ⟨va_cnB 0 hts (goodT w1) rfl rfl rfl (hN.1 _ hlk rfl) (mem w2) ⟨w3, w4, w5⟩ ⟨hR.1, hR.2.1⟩, hy1, mem hI⟩ ⟨kPre_blind _ _ _ _ _, fun U hU hWm => ⟨rfl, by rw [hU], by rw [hU]; exact hcut.1, va_K.moved hWm.alike hK, kN.warm hWm hN, hcut.2⟩⟩ rfl rfl hsz rfl (lv_room hsum) hdg ⟨hR.2.2.1, hR.2.2.2⟩
theorem k_goN {b ci mc ms : Nat} {fs : List Value} {wf : (Nat → Nat) → va_W} (X : va_W) {a : Array Value} {st0 : List Value} (hA : ∀ q, H0.size ≤ q → A q) (hW : wd A H0 D (X ++ [(b, .inr (ci, fs))]) H locs) (hr : va_Run p l e R s m args below meth c H locs cells slots mc ms (F0 m pc ls st0) rest (qN D wf (va_A [(b, .inr (ci, fs))] H.size) a) (va_A [(b, .inr (ci, fs))] H.size))
    (kk : ∀ (u : Nat → Nat) (H1 : Heap) (locs1 : List Loc), wd A H0 D (X ++ wf u) H1 locs1 → W p l e R s m args below meth c H1 locs1 (cells + mc) (slots + ms) Q (F0 m (pc + 3) ls rest)) : W p l e R s m args below meth c H locs cells slots Q (F0 m pc ls st0) := by
  have hC : [X.length].map (fun i => (X ++ [(b, Sum.inr (ci, fs))] : va_W)[i]?) = ([(b, .inr (ci, fs))] : va_W).map some := by simp
  have hRR : (List.range X.length).map (fun i => (X ++ [(b, Sum.inr (ci, fs))] : va_W)[i]?) = X.map some := by
    apply List.ext_getElem?
    intro k
    rw [List.getElem?_map, List.getElem?_map]
    by_cases hk : k < X.length
    · rw [List.getElem?_range hk]
      show some ((X ++ _)[k]?) = _
      rw [List.getElem?_append_left hk, List.getElem?_eq_getElem hk]
      rfl
    · have e1 : (List.range X.length)[k]? = none := by simp; omega
      have e2 : X[k]? = none := by simp; omega
      rw [e1, e2]
      rfl
  have hF := wd_free hW hA [X.length] hC
  refine va_callv hr hW.2.2 (fun q _ h => hF q h) hF (fun u t H1 locs1 ht hvm hp hB hz hk hS => ?_)
  obtain ⟨hB1, hB2⟩ := hB
  rw [ht] at hB1
  obtain ⟨j1, j2⟩ := va_join (wr := X) (w1 := wf u) hW.1 hW.2.1 [X.length] (List.range X.length) hC hRR (va_nd_of _ List.nodup_range) (fun i hi h => by
    have h1 := List.mem_range.mp hi
    have h2 := List.mem_singleton.mp h
    omega) hk hF hB1 hB2
  exact kk u H1 locs1 ⟨j1, j2, hS⟩
end KMAKE
