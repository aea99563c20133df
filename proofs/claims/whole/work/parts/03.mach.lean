/-! the machine over logical cells: cells by numbers in the order of their making; three memories (ints, longs, references); code resolved -/
/-- cells made, slots made, shapes (below 100: an object of that class; 100 + t: an array of type t and its length), ints, longs, references -/
abbrev zH : Type := (Nat × Nat) × (Nat → Nat × Nat) × (Nat → Nat → Int32) × (Nat → Nat → Int64) × (Nat → Nat → Option Nat)
abbrev zLV : Type := List (Nat × Value)
abbrev zh_n (h : zH) : Nat := h.1.1
abbrev zh_s (h : zH) : Nat := h.1.2
abbrev zh_sh (h : zH) : Nat → Nat × Nat := h.2.1
abbrev zh_I (h : zH) : Nat → Nat → Int32 := h.2.2.1
abbrev zh_L (h : zH) : Nat → Nat → Int64 := h.2.2.2.1
abbrev zh_R (h : zH) : Nat → Nat → Option Nat := h.2.2.2.2
def z2 {α : Type} (f : Nat → Nat → α) (a j : Nat) (x : α) : Nat → Nat → α := fun b k => if b = a then (if k = j then x else f b k) else f b k
def z1 {α : Type} (f : Nat → α) (a : Nat) (x : α) : Nat → α := fun b => if b = a then x else f b
abbrev zh_setI (h : zH) (a j : Nat) (x : Int32) : zH := (h.1, h.2.1, z2 h.2.2.1 a j x, h.2.2.2)
abbrev zh_setL (h : zH) (a j : Nat) (x : Int64) : zH := (h.1, h.2.1, h.2.2.1, z2 h.2.2.2.1 a j x, h.2.2.2.2)
abbrev zh_setR (h : zH) (a j : Nat) (x : Option Nat) : zH := (h.1, h.2.1, h.2.2.1, h.2.2.2.1, z2 h.2.2.2.2 a j x)
/-- a new cell of a shape, of so many slots, all zero -/
abbrev zh_new (h : zH) (sh : Nat × Nat) (sl : Nat) : zH := ((h.1.1 + 1, h.1.2 + sl), z1 h.2.1 h.1.1 sh, z1 h.2.2.1 h.1.1 (fun _ => 0), z1 h.2.2.2.1 h.1.1 (fun _ => 0), z1 h.2.2.2.2 h.1.1 (fun _ => none))
/-- the script's own number; texts' numbers begin behind it -/
abbrev zSCR : Nat := 1000000
abbrev zSTR : Nat := 2000000
def zVS : List (List Int32) := [[107, 101, 101, 112, 115, 32, 109, 101, 109, 111, 114, 121, 32, 59, 32, 116, 105, 114, 101, 115, 32, 48, 32, 59, 32, 108, 101, 97, 114, 110, 115, 32, 48, 32, 59], [119, 111, 114, 100, 115], [109, 101, 109, 111, 114, 121], [110, 117, 109, 98, 101, 114], [100, 97, 121], [112, 97, 114, 116, 115], [115, 97, 105, 100], [107, 101, 101, 112, 115], [116, 105, 114, 101, 115], [108, 101, 97, 114, 110, 115], [111, 114], [97, 110, 100], [110, 111, 116]]
/-- a local's value -/
def zlk (ls : zLV) (i : Nat) : Option Value := (ls.find? (fun q => q.1 == i)).map (·.2)
def zst1 (ls : zLV) (i : Nat) (v : Value) : zLV := (i, v) :: ls.filter (fun q => !(q.1 == i) && !(q.1 + 1 == i && q.2.category == 2))
def zst2 (ls : zLV) (i : Nat) (v : Value) : zLV := (i, v) :: ls.filter (fun q => !(q.1 == i) && (!(q.1 == i + 1) && !(q.1 + 1 == i && q.2.category == 2)))
abbrev zOut : Type := Option (Nat × zLV × List Value × zH)
def zldI (pc : Nat) (ls : zLV) (i : Nat) (st : List Value) (h : zH) : zOut := match zlk ls i with
  | some (.int x) => some (pc + 1, ls, .int x :: st, h)
  | _ => none
def zldL (pc : Nat) (ls : zLV) (i : Nat) (st : List Value) (h : zH) : zOut := match zlk ls i with
  | some (.long x) => some (pc + 1, ls, .long x :: st, h)
  | _ => none
def zldA (pc : Nat) (ls : zLV) (i : Nat) (st : List Value) (h : zH) : zOut := match zlk ls i with
  | some (.ref x) => some (pc + 1, ls, .ref x :: st, h)
  | _ => none
def zstI (nL pc : Nat) (ls : zLV) (i : Nat) (st : List Value) (h : zH) : zOut := match st with
  | .int x :: r => if i < nL then some (pc + 1, zst1 ls i (.int x), r, h) else none
  | _ => none
def zstA (nL pc : Nat) (ls : zLV) (i : Nat) (st : List Value) (h : zH) : zOut := match st with
  | .ref x :: r => if i < nL then some (pc + 1, zst1 ls i (.ref x), r, h) else none
  | _ => none
def zstL (nL pc : Nat) (ls : zLV) (i : Nat) (st : List Value) (h : zH) : zOut := match st with
  | .long x :: r => if i + 1 < nL then some (pc + 1, zst2 ls i (.long x), r, h) else none
  | _ => none
def zinc (nL pc : Nat) (ls : zLV) (i : Nat) (n : Int) (st : List Value) (h : zH) : zOut := match zlk ls i with
  | some (.int x) => if i < nL then some (pc + 1, zst1 ls i (.int (x + Int32.ofInt n)), st, h) else none
  | _ => none
def zb2 (f : Int32 → Int32 → Int32) (pc : Nat) (ls : zLV) (st : List Value) (h : zH) : zOut := match st with
  | .int y :: .int x :: r => some (pc + 1, ls, .int (f x y) :: r, h)
  | _ => none
def zb2n (f : Int32 → Int32 → Int32) (pc : Nat) (ls : zLV) (st : List Value) (h : zH) : zOut := match st with
  | .int y :: .int x :: r => if y = 0 then none else some (pc + 1, ls, .int (f x y) :: r, h)
  | _ => none
def zu1 (f : Int32 → Int32) (pc : Nat) (ls : zLV) (st : List Value) (h : zH) : zOut := match st with
  | .int x :: r => some (pc + 1, ls, .int (f x) :: r, h)
  | _ => none
def zl2 (f : Int64 → Int64 → Int64) (pc : Nat) (ls : zLV) (st : List Value) (h : zH) : zOut := match st with
  | .long y :: .long x :: r => some (pc + 1, ls, .long (f x y) :: r, h)
  | _ => none
def zl2n (f : Int64 → Int64 → Int64) (pc : Nat) (ls : zLV) (st : List Value) (h : zH) : zOut := match st with
  | .long y :: .long x :: r => if y = 0 then none else some (pc + 1, ls, .long (f x y) :: r, h)
  | _ => none
def zc1 (cnd : Int32 → Prop) [DecidablePred cnd] (a pc : Nat) (ls : zLV) (st : List Value) (h : zH) : zOut := match st with
  | .int x :: r => some (if cnd x then a else pc + 1, ls, r, h)
  | _ => none
def zc2 (cnd : Int32 → Int32 → Prop) [∀ x y, Decidable (cnd x y)] (a pc : Nat) (ls : zLV) (st : List Value) (h : zH) : zOut := match st with
  | .int y :: .int x :: r => some (if cnd x y then a else pc + 1, ls, r, h)
  | _ => none
/-- an int in a row's bounds -/
abbrev zin (i : Int32) (n : Nat) : Prop := 0 ≤ i.toInt ∧ i.toInt < (n : Int)
def zfv (h : zH) (x k j : Nat) : Value := match k with
  | 0 => .int (zh_I h x j)
  | 1 => .long (zh_L h x j)
  | _ => va_rf (zh_R h x j)
def zgf (c j pc : Nat) (ls : zLV) (st : List Value) (h : zH) : zOut := match st with
  | .ref x :: r => if x < zh_n h ∧ (zh_sh h x).1 = c then some (pc + 1, ls, zfv h x (zKd c j) j :: r, h) else none
  | _ => none
/-- a field may be written here: it isn't final, or this is its class' constructor -/
def zmay (k c j : Nat) : Bool := !(zT c j).2.2.2 || ((zY k).name == "<init>" && zO k == c)
def zboo (c j : Nat) (x : Int32) : Prop := (zT c j).2.2.1 = "Z" → x = 0 ∨ x = 1
instance zbooD (c j : Nat) (x : Int32) : Decidable (zboo c j x) := by unfold zboo; exact inferInstance
