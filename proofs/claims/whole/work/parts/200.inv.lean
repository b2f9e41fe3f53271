-- WHAT HOLDS BETWEEN THE CALLS (the class and the model share their parts' contents; these are the ranges, the image, the steps)
def gb (k f w : Nat) : Bool := match k with
  | 0 => w != f % 6
  | 1 => (w + f) % 2 == 0
  | 2 => w == 1 || w == 2 || w == 5
  | 3 => w == 1 || w == 2 || w == 5 || w == f % 6
  | 4 => (w + f) % 2 == 0 && w != 1
  | _ => true
def gw (k f : Nat) : Nat := (List.range 6).foldl (fun acc w => if gb k f w then acc + 2 ^ w else acc) 0
/-- a state: things, days, done; weights, kinds, figures, goes, hampers, wants, lefts -/
def IS (th dy dn : Int32) (wt kd fg go hm wi lf : Nat → Int32) : Prop :=
  ∃ n m q : Nat, n ≤ 8 ∧ m ≤ 8 ∧ q ≤ 999 ∧ th = nI n ∧ dy = nI m ∧ dn = nI q ∧ (∀ j, j < 6 → ∃ x, x ≤ 9 ∧ wt j = nI x) ∧
    (∀ j, j < n → ∃ k f, k < 6 ∧ f ≤ 9 ∧ kd j = nI k ∧ fg j = nI f ∧ go j = nI (gw k f)) ∧
    (∀ j, j < m → ∃ h, h < 2 ^ n ∧ hm j = nI h) ∧ (∀ j, j < 4 → ∃ x y, x ≤ 63 ∧ y ≤ 9 ∧ wi j = nI x ∧ lf j = nI y)
/-- a state laid as a row of 41 numbers from o on -/
def Enc (a : Nat → Int32) (o : Nat) (th dy dn : Int32) (wt kd fg hm wi lf : Nat → Int32) : Prop :=
  a o = th ∧ a (o + 1) = dy ∧ a (o + 2) = dn ∧ (∀ j, j < 6 → a (o + 3 + j) = wt j) ∧
    (∀ j, j < 8 → a (o + 9 + 3 * j) = kd j ∧ a (o + 10 + 3 * j) = fg j ∧ a (o + 11 + 3 * j) = hm j) ∧ (∀ j, j < 4 → a (o + 33 + 2 * j) = wi j ∧ a (o + 34 + 2 * j) = lf j)
/-- what a step of the class takes back -/
def uWt (p l b : Int32) (wt : Nat → Int32) : Nat → Int32 := if p = 0 then upd wt l.toNatClampNeg b else wt
def uHm (p l b : Int32) (hm : Nat → Int32) : Nat → Int32 := if p = 1 then upd hm l.toNatClampNeg b else hm
def uFd (p l b : Int32) (f : Nat → Int32) : Nat → Int32 := if p = 2 ∧ 0 ≤ l ∧ l < 4 then upd f l.toNatClampNeg b else f
def uDn (p d dn : Int32) : Int32 := if p = 2 then d else dn
/-- the class's steps and the model's rows of states tell the same -/
def IT (th dy : Int32) (kd fg go : Nat → Int32) (sg : Nat → Nat) (sp sl sb sf sd tu : Nat → Int32) : Nat → (Nat → Int32) → (Nat → Int32) → (Nat → Int32) → (Nat → Int32) → Int32 → Prop
  | 0, _, _, _, _, _ => True
  | k + 1, wt, hm, wi, lf, dn =>
    (sp (sg k) = 0 → 0 ≤ sl (sg k) ∧ sl (sg k) < 6) ∧ (sp (sg k) = 1 → 0 ≤ sl (sg k) ∧ sl (sg k) < dy) ∧ (sp (sg k) = 0 ∨ sp (sg k) = 1 ∨ sp (sg k) = 2) ∧
    IS th dy (uDn (sp (sg k)) (sd (sg k)) dn) (uWt (sp (sg k)) (sl (sg k)) (sb (sg k)) wt) kd fg go (uHm (sp (sg k)) (sl (sg k)) (sb (sg k)) hm) (uFd (sp (sg k)) (sl (sg k)) (sb (sg k)) wi) (uFd (sp (sg k)) (sl (sg k)) (sf (sg k)) lf) ∧
    Enc tu (41 * k) th dy (uDn (sp (sg k)) (sd (sg k)) dn) (uWt (sp (sg k)) (sl (sg k)) (sb (sg k)) wt) kd fg (uHm (sp (sg k)) (sl (sg k)) (sb (sg k)) hm) (uFd (sp (sg k)) (sl (sg k)) (sb (sg k)) wi) (uFd (sp (sg k)) (sl (sg k)) (sf (sg k)) lf) ∧
    IT th dy kd fg go sg sp sl sb sf sd tu k (uWt (sp (sg k)) (sl (sg k)) (sb (sg k)) wt) (uHm (sp (sg k)) (sl (sg k)) (sb (sg k)) hm) (uFd (sp (sg k)) (sl (sg k)) (sb (sg k)) wi) (uFd (sp (sg k)) (sl (sg k)) (sf (sg k)) lf) (uDn (sp (sg k)) (sd (sg k)) dn)
def IK (hk kth kdy kdn : Int32) (kwt kkd kfg kgo khm kwi klf im : Nat → Int32) : Prop := hk = 0 ∨ (hk = 1 ∧ IS kth kdy kdn kwt kkd kfg kgo khm kwi klf ∧ Enc im 0 kth kdy kdn kwt kkd kfg khm kwi klf)
def IP (sg : Nat → Nat) : Prop := (∀ i, i < 8 → sg i < 8) ∧ ∀ i j, i < 8 → j < 8 → sg i = sg j → i = j
/-- a row with a count -/
def IL (c : Int32) (f : Nat → Int32) (N M : Nat) : Prop := ∃ k, k ≤ N ∧ c = nI k ∧ ∀ j, j < k → ∃ x, x ≤ M ∧ f j = nI x
def Inv (th dy dn : Int32) (wt kd fg go hm wi lf : Nat → Int32) (hk kth kdy kdn : Int32) (kwt kkd kfg kgo khm kwi klf im : Nat → Int32) (sc : Int32) (sg : Nat → Nat) (sp sl sb sf sd tu lt : Nat → Int32) (lc : Int32) (nu : Nat → Int32) (nc : Int32) : Prop :=
  IS th dy dn wt kd fg go hm wi lf ∧ IK hk kth kdy kdn kwt kkd kfg kgo khm kwi klf im ∧ (IP sg ∧ ∃ k, k ≤ 8 ∧ sc = nI k ∧ IT th dy kd fg go sg sp sl sb sf sd tu k wt hm wi lf dn) ∧ IL lc lt 96 255 ∧ IL nc nu 12 99
theorem IS_first {wt wi : Nat → Int32} {z : Nat → Int32} (h1 : ∀ j, j < 6 → wt j = 1) (h2 : ∀ j, j < 4 → wi j = 63) (h3 : ∀ j, z j = 0) : IS 0 0 0 wt z z z z wi z :=
  ⟨0, 0, 0, by omega, by omega, by omega, rfl, rfl, rfl, fun j hj => ⟨1, by omega, h1 j hj⟩, fun j hj => absurd hj (by omega), fun j hj => absurd hj (by omega), fun j hj => ⟨63, 0, by omega, by omega, h2 j hj, h3 j⟩⟩
