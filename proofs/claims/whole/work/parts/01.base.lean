/-! BASE: the picture of the cells, and what the functions of the methods are made of -/
abbrev AV : Type := Int32 ⊕ Nat
abbrev Hp : Type := Nat → Nat → Int32
abbrev Sp : Type := (Bool × Nat) ⊕ (Nat × List (Option Nat))
abbrev RO : Type := Option (Int32 × Hp)
/-- the cells: 0 StampSheet, 1 its state, 2 what is kept, 3 Search, 4 Sure, 5 Clashes, 28 the reference; an array: boolean or not, its length; an object: its class, of each field none (a number) or the cell that it holds -/
def lay : List Sp := [
  .inr (4, [some 1, some 2, some 3, some 4, none]),
  .inr (2, [none, none, none, none, none, some 6, some 7, some 8]),
  .inr (2, [none, none, none, none, none, some 9, some 10, some 11]),
  .inr (1, [some 1, some 5, none, none, none, none, some 12, none, none, some 13, some 14, some 15, some 16, some 17, some 18, some 19, some 20, some 21, some 22]),
  .inr (3, [some 1, some 3, some 27]),
  .inr (0, [some 1, some 23, some 24, some 25, some 26]),
  .inl (false, 30), .inl (false, 300), .inl (false, 8),
  .inl (false, 30), .inl (false, 300), .inl (false, 8),
  .inl (false, 30), .inl (true, 5), .inl (false, 5), .inl (false, 5), .inl (false, 5), .inl (false, 5), .inl (false, 5), .inl (false, 5), .inl (false, 5), .inl (false, 5), .inl (false, 225),
  .inl (false, 30), .inl (false, 30), .inl (false, 30), .inl (false, 2025),
  .inl (false, 5),
  .inr (5, [none, none, none, some 29, some 30, some 31, some 32, some 33, none, some 34, some 35, some 36, some 37, some 38, some 39, some 40, none, some 41, some 42, none, some 43, some 44, some 45, some 46, some 47, none, some 48, some 49, some 50, some 51, none, none, some 52, some 53, none, some 54]),
  .inl (false, 5), .inl (false, 5), .inl (false, 5), .inl (false, 5), .inl (true, 5),
  .inl (false, 30), .inl (false, 240), .inl (false, 30), .inl (false, 30), .inl (false, 30), .inl (false, 30), .inl (false, 30),
  .inl (false, 6), .inl (false, 6),
  .inl (false, 5), .inl (false, 25), .inl (false, 180), .inl (false, 240), .inl (false, 12),
  .inl (false, 5), .inl (true, 45), .inl (false, 2025), .inl (false, 5), .inl (false, 30), .inl (false, 5), .inl (false, 30)]
/-- an answer that is there, and of which 'post' holds -/
def Sat (post : Int32 → Hp → Prop) (o : RO) : Prop := match o with
  | some q => post q.1 q.2
  | none => False
def up (h : Hp) (k j : Nat) (v : Int32) : Hp := fun a => if a = k then upd (h k) j v else h a
def inA (z : Bool) (k : Nat) (i : Int32) : Bool := match lay[k]? with
  | some (.inl a) => (z == a.1) && (decide (0 ≤ i) && decide (i.toNatClampNeg < a.2))
  | _ => false
def rd (h : Hp) (k : Nat) (i : Int32) (f : Int32 → RO) : RO := bif inA false k i then f (h k i.toNatClampNeg) else none
def rdz (h : Hp) (k : Nat) (i : Int32) (f : Int32 → RO) : RO := bif inA true k i then f (h k i.toNatClampNeg) else none
def wr (h : Hp) (k : Nat) (i v : Int32) (f : Hp → RO) : RO := bif inA false k i then f (up h k i.toNatClampNeg v) else none
def wrz (h : Hp) (k : Nat) (i v : Int32) (f : Hp → RO) : RO := if v = 0 ∨ v = 1 then (bif inA true k i then f (up h k i.toNatClampNeg v) else none) else none
def pt (h : Hp) (k j : Nat) (v : Int32) (f : Hp → RO) : RO := f (up h k j v)
def ptz (h : Hp) (k j : Nat) (v : Int32) (f : Hp → RO) : RO := if v = 0 ∨ v = 1 then f (up h k j v) else none
def bnd (x : Int32) (f : Int32 → RO) : RO := f x
def jn {τ : Type} (a : τ) (f : τ → RO) : RO := f a
def cal (o : RO) (f : Int32 → Hp → RO) : RO := match o with
  | some q => f q.1 q.2
  | none => none
def ret1 (v : Int32) (h : Hp) : RO := some (v, h)
def retz (v : Int32) (h : Hp) : RO := if v = 0 ∨ v = 1 then some (v, h) else none
def dv (x y : Int32) (f : Int32 → RO) : RO := if y = 0 then none else f (x / y)
def rm_ (x y : Int32) (f : Int32 → RO) : RO := if y = 0 then none else f (x - x / y * y)
def alen (k : Nat) : Nat := match lay[k]? with
  | some (.inl a) => a.2
  | _ => 0
def ush (x y : Int32) : Int32 := (x.toUInt32 >>> (y.toUInt32 &&& Int32.toUInt32 31)).toInt32
theorem lay_lt {k : Nat} {sp : Sp} (hk : lay[k]? = some sp) : k < 55 := (List.getElem?_eq_some_iff.mp hk).1
theorem upd_same (f : Nat → Int32) (j : Nat) (v : Int32) : upd f j v j = v := by simp [upd]
theorem upd_ne {f : Nat → Int32} {j i : Nat} (hn : i ≠ j) (v : Int32) : upd f j v i = f i := by simp [upd, hn]
theorem up_k (h : Hp) (k j : Nat) (v : Int32) : up h k j v k = upd (h k) j v := by simp [up]
theorem up_ne (h : Hp) {a k : Nat} (hn : a ≠ k) (j : Nat) (v : Int32) : up h k j v a = h a := by simp [up, hn]
/-- a switch from 0 on -/
def swf (x : Int32) : Nat → List RO → RO → RO
  | _, [], o => o
  | i, a :: l, o => if x = nI i then a else swf x (i + 1) l o
/-- System.arraycopy of numbers -/
def acp (h : Hp) (a b : Nat) (n : Nat) : Hp := fun z => if z = b then va_cpy (h a) (h b) 0 0 n else h z
def FU : Nat := 100000
def aln (k : Nat) (f : Int32 → RO) : RO := match lay[k]? with
  | some (.inl a) => f (Int32.ofNat a.2)
  | _ => none
def cpy (h : Hp) (a b : Nat) (s t v : Int32) (f : Hp → RO) : RO := match lay[a]?, lay[b]? with
  | some (.inl x), some (.inl y) => if x.1 = false ∧ y.1 = false ∧ x.2 = y.2 ∧ x.2 < 1000 ∧ s = 0 ∧ t = 0 ∧ v = nI x.2 then f (acp h a b x.2) else none
  | _, _ => none
def mxI (x y : Int32) : Int32 := if x < y then y else x
def mnI (x y : Int32) : Int32 := if y < x then y else x
