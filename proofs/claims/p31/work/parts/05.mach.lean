/-! the machine over logical cells (numbers in the order of their making), as a transformer of predicates: ints are Int in their range -/
abbrev zV : Type := Int ⊕ (Int ⊕ Option Nat)
abbrev zi (x : Int) : zV := .inl x
abbrev zl (x : Int) : zV := .inr (.inl x)
abbrev zr (x : Nat) : zV := .inr (.inr (some x))
/-- cells made, slots made, the script's length; ints and longs; references -/
abbrev zH : Type := (Nat × Nat × Nat) × (Nat → Nat → Int) × (Nat → Nat → Option Nat)
abbrev zLv : Type := List (Option zV)
abbrev zK : Type := Nat → zLv → List zV → zH → Prop
abbrev zQ : Type := Option zV → zH → Prop
abbrev zCt : Type := Nat → Nat → Nat → List zV → zH → zQ → Prop
def zwr (x : Int) : Int := (x + 2147483648) % 4294967296 - 2147483648
def zwl (x : Int) : Int := (x + 9223372036854775808) % 18446744073709551616 - 9223372036854775808
def z2 {α : Type} (f : Nat → Nat → α) (a j : Nat) (x : α) : Nat → Nat → α := fun b k => if b = a ∧ k = j then x else f b k
def z1 {α : Type} (f : Nat → Nat → α) (a : Nat) (x : α) : Nat → Nat → α := fun b k => if b = a then x else f b k
/-- n values of cell a from place i on come to cell b's place j on -/
def zcp {α : Type} (f : Nat → Nat → α) (a i b j n : Nat) : Nat → Nat → α := fun x k => if x = b ∧ j ≤ k ∧ k < j + n then f a (i + (k - j)) else f x k
def zsu {α : Type} : List α → Nat → α → List α | [], _, _ => [] | _ :: l, 0, v => v :: l | a :: l, n + 1, v => a :: zsu l n v
/-- a long stands just ahead of that place -/
def zlg (ls : zLv) : Nat → Bool
  | 0 => false
  | j + 1 => match zgt none ls j with
    | some (.inr (.inl _)) => true
    | _ => false
def zva (v : Option zV) (r : List zV) : List zV := match v with
  | some v => v :: r
  | none => r
def zvsLen (x : Nat) : Nat := (zgt [] zVS (x - 1000)).length
def zvsAt (x i : Nat) : Int := zgt 0 (zgt [] zVS (x - 1000)) i
-- bits
def zand (x y : Int) : Int := (Int32.ofInt x &&& Int32.ofInt y).toInt
def zor (x y : Int) : Int := (Int32.ofInt x ||| Int32.ofInt y).toInt
def zxor (x y : Int) : Int := (Int32.ofInt x ^^^ Int32.ofInt y).toInt
def zshl (x y : Int) : Int := (Int32.ofInt x <<< (Int32.ofInt y &&& 31)).toInt
def zshr (x y : Int) : Int := (Int32.ofInt x >>> (Int32.ofInt y &&& 31)).toInt
def zushr (x y : Int) : Int := ((Int32.ofInt x).toUInt32 >>> ((Int32.ofInt y).toUInt32 &&& Int32.toUInt32 31)).toInt32.toInt
def zi2b (x : Int) : Int := (Int32.ofInt x).toInt8.toInt32.toInt
def zi2s (x : Int) : Int := (Int32.ofInt x).toInt16.toInt32.toInt
def zcmp (x y : Int) : Int := if x < y then -1 else if x = y then 0 else 1
-- operations
def zo_li (i n : Nat) (K : zK) (pc : Nat) (ls : zLv) (st : List zV) (h : zH) : Prop := match zgt none ls i with
  | some (.inl x) => K (pc + n) ls (.inl x :: st) h
  | _ => False
def zo_ll (i n : Nat) (K : zK) (pc : Nat) (ls : zLv) (st : List zV) (h : zH) : Prop := match zgt none ls i with
  | some (.inr (.inl x)) => K (pc + n) ls (.inr (.inl x) :: st) h
  | _ => False
def zo_lr (i n : Nat) (K : zK) (pc : Nat) (ls : zLv) (st : List zV) (h : zH) : Prop := match zgt none ls i with
  | some (.inr (.inr (some x))) => K (pc + n) ls (.inr (.inr (some x)) :: st) h
  | _ => False
def zo_si (i n : Nat) (K : zK) (pc : Nat) (ls : zLv) (st : List zV) (h : zH) : Prop := match st with
  | .inl x :: r => match zlg ls i with
    | true => False
    | false => K (pc + n) (zsu ls i (some (.inl x))) r h
  | _ => False
def zo_sr (i n : Nat) (K : zK) (pc : Nat) (ls : zLv) (st : List zV) (h : zH) : Prop := match st with
  | .inr (.inr (some x)) :: r => match zlg ls i with
    | true => False
    | false => K (pc + n) (zsu ls i (some (.inr (.inr (some x))))) r h
  | _ => False
def zo_sl (i n : Nat) (K : zK) (pc : Nat) (ls : zLv) (st : List zV) (h : zH) : Prop := match st with
  | .inr (.inl x) :: r => match zlg ls i with
    | true => False
    | false => K (pc + n) (zsu (zsu ls i (some (.inr (.inl x)))) (i + 1) none) r h
  | _ => False
def zo_inc (i : Nat) (d : Int) (K : zK) (pc : Nat) (ls : zLv) (st : List zV) (h : zH) : Prop := match zgt none ls i with
  | some (.inl x) => match zlg ls i with
    | true => False
    | false => K (pc + 3) (zsu ls i (some (.inl (zwr (x + d))))) st h
  | _ => False
def zo_i2 (f : Int → Int → Int) (K : zK) (pc : Nat) (ls : zLv) (st : List zV) (h : zH) : Prop := match st with
  | .inl y :: .inl x :: r => K (pc + 1) ls (.inl (f x y) :: r) h
  | _ => False
def zo_i2n (f : Int → Int → Int) (K : zK) (pc : Nat) (ls : zLv) (st : List zV) (h : zH) : Prop := match st with
  | .inl y :: .inl x :: r => y ≠ 0 ∧ K (pc + 1) ls (.inl (f x y) :: r) h
  | _ => False
def zo_i1 (f : Int → Int) (K : zK) (pc : Nat) (ls : zLv) (st : List zV) (h : zH) : Prop := match st with
  | .inl x :: r => K (pc + 1) ls (.inl (f x) :: r) h
  | _ => False
def zo_l2 (f : Int → Int → Int) (K : zK) (pc : Nat) (ls : zLv) (st : List zV) (h : zH) : Prop := match st with
  | .inr (.inl y) :: .inr (.inl x) :: r => K (pc + 1) ls (.inr (.inl (f x y)) :: r) h
  | _ => False
def zo_l2n (f : Int → Int → Int) (K : zK) (pc : Nat) (ls : zLv) (st : List zV) (h : zH) : Prop := match st with
  | .inr (.inl y) :: .inr (.inl x) :: r => y ≠ 0 ∧ K (pc + 1) ls (.inr (.inl (f x y)) :: r) h
  | _ => False
def zo_lcmp (K : zK) (pc : Nat) (ls : zLv) (st : List zV) (h : zH) : Prop := match st with
  | .inr (.inl y) :: .inr (.inl x) :: r => K (pc + 1) ls (.inl (zcmp x y) :: r) h
  | _ => False
def zo_i2l (K : zK) (pc : Nat) (ls : zLv) (st : List zV) (h : zH) : Prop := match st with
  | .inl x :: r => K (pc + 1) ls (.inr (.inl x) :: r) h
  | _ => False
def zo_l2i (K : zK) (pc : Nat) (ls : zLv) (st : List zV) (h : zH) : Prop := match st with
  | .inr (.inl x) :: r => K (pc + 1) ls (.inl (zwr x) :: r) h
  | _ => False
def zo_dup (K : zK) (pc : Nat) (ls : zLv) (st : List zV) (h : zH) : Prop := match st with
  | .inl x :: r => K (pc + 1) ls (.inl x :: .inl x :: r) h
  | .inr (.inr x) :: r => K (pc + 1) ls (.inr (.inr x) :: .inr (.inr x) :: r) h
  | _ => False
def zo_dup2 (K : zK) (pc : Nat) (ls : zLv) (st : List zV) (h : zH) : Prop := match st with
  | .inl x :: .inr (.inr y) :: r => K (pc + 1) ls (.inl x :: .inr (.inr y) :: .inl x :: .inr (.inr y) :: r) h
  | _ => False
def zo_dupx (K : zK) (pc : Nat) (ls : zLv) (st : List zV) (h : zH) : Prop := match st with
  | .inl x :: .inr (.inr y) :: r => K (pc + 1) ls (.inl x :: .inr (.inr y) :: .inl x :: r) h
  | .inl x :: .inl y :: r => K (pc + 1) ls (.inl x :: .inl y :: .inl x :: r) h
  | _ => False
def zo_pop (K : zK) (pc : Nat) (ls : zLv) (st : List zV) (h : zH) : Prop := match st with
  | .inl _ :: r => K (pc + 1) ls r h
  | .inr (.inr _) :: r => K (pc + 1) ls r h
  | _ => False
def zo_c1 (c : Jvm.ClassFile.Cond) (t : Nat) (K : zK) (pc : Nat) (ls : zLv) (st : List zV) (h : zH) : Prop := match st with
  | .inl x :: r => match c with
    | .eq => (x = 0 → K t ls r h) ∧ (¬ x = 0 → K (pc + 3) ls r h)
    | .ne => (x ≠ 0 → K t ls r h) ∧ (¬ x ≠ 0 → K (pc + 3) ls r h)
    | .lt => (x < 0 → K t ls r h) ∧ (¬ x < 0 → K (pc + 3) ls r h)
    | .ge => (0 ≤ x → K t ls r h) ∧ (¬ 0 ≤ x → K (pc + 3) ls r h)
    | .gt => (0 < x → K t ls r h) ∧ (¬ 0 < x → K (pc + 3) ls r h)
    | .le => (x ≤ 0 → K t ls r h) ∧ (¬ x ≤ 0 → K (pc + 3) ls r h)
  | _ => False
def zo_c2 (c : Jvm.ClassFile.Cond) (t : Nat) (K : zK) (pc : Nat) (ls : zLv) (st : List zV) (h : zH) : Prop := match st with
  | .inl y :: .inl x :: r => match c with
    | .eq => (x = y → K t ls r h) ∧ (¬ x = y → K (pc + 3) ls r h)
    | .ne => (x ≠ y → K t ls r h) ∧ (¬ x ≠ y → K (pc + 3) ls r h)
    | .lt => (x < y → K t ls r h) ∧ (¬ x < y → K (pc + 3) ls r h)
    | .ge => (y ≤ x → K t ls r h) ∧ (¬ y ≤ x → K (pc + 3) ls r h)
    | .gt => (y < x → K t ls r h) ∧ (¬ y < x → K (pc + 3) ls r h)
    | .le => (x ≤ y → K t ls r h) ∧ (¬ x ≤ y → K (pc + 3) ls r h)
  | _ => False
def zsw (x : Int) (d : Nat) (K : Nat → Prop) : List (Int × Nat) → Prop
  | [] => K d
  | (c, t) :: l => (x = c → K t) ∧ (¬ x = c → zsw x d K l)
def zo_sw (d : Nat) (l : List (Int × Nat)) (K : zK) (ls : zLv) (st : List zV) (h : zH) : Prop := match st with
  | .inl x :: r => zsw x d (fun t => K t ls r h) l
  | _ => False
def zo_gf (c j : Nat) (K : zK) (pc : Nat) (ls : zLv) (st : List zV) (h : zH) : Prop := match st with
  | .inr (.inr (some x)) :: r => (zSh x).1 = c ∧ match zKd c j with
    | 1 => K (pc + 3) ls (.inr (.inl (h.2.1 x j)) :: r) h
    | 2 => ∃ v, h.2.2 x j = v ∧ K (pc + 3) ls (.inr (.inr v) :: r) h
    | _ => K (pc + 3) ls (.inl (h.2.1 x j) :: r) h
  | _ => False
def zo_pf (c j : Nat) (K : zK) (pc : Nat) (ls : zLv) (st : List zV) (h : zH) : Prop := match st with
  | v :: .inr (.inr (some x)) :: r => (zSh x).1 = c ∧ match zKd c j, v with
    | 0, .inl y => K (pc + 3) ls r (h.1, z2 h.2.1 x j y, h.2.2)
    | 1, .inr (.inl y) => K (pc + 3) ls r (h.1, z2 h.2.1 x j y, h.2.2)
    | 2, .inr (.inr (some y)) => K (pc + 3) ls r (h.1, h.2.1, z2 h.2.2 x j (some y))
    | 3, .inl y => (y = 0 ∨ y = 1) ∧ K (pc + 3) ls r (h.1, z2 h.2.1 x j y, h.2.2)
    | _, _ => False
  | _ => False
def zo_ild (t : Nat) (K : zK) (pc : Nat) (ls : zLv) (st : List zV) (h : zH) : Prop := match st with
  | .inl i :: .inr (.inr (some x)) :: r => (zSh x).1 = t ∧ (0 ≤ i ∧ i < ((zSh x).2 : Nat)) ∧ K (pc + 1) ls (.inl (h.2.1 x i.toNat) :: r) h
  | _ => False
/-- the script's own element -/
def zo_sld (K : zK) (pc : Nat) (ls : zLv) (st : List zV) (h : zH) : Prop := match st with
  | .inl i :: .inr (.inr (some x)) :: r => x = 2000 ∧ (0 ≤ i ∧ i < (h.1.2.2 : Nat)) ∧ K (pc + 1) ls (.inl (h.2.1 2000 i.toNat) :: r) h
  | _ => False
def zo_ist (t : Nat) (K : zK) (pc : Nat) (ls : zLv) (st : List zV) (h : zH) : Prop := match st with
  | .inl y :: .inl i :: .inr (.inr (some x)) :: r => (zSh x).1 = t ∧ (0 ≤ i ∧ i < ((zSh x).2 : Nat)) ∧ K (pc + 1) ls r (h.1, z2 h.2.1 x i.toNat y, h.2.2)
  | _ => False
def zo_zst (K : zK) (pc : Nat) (ls : zLv) (st : List zV) (h : zH) : Prop := match st with
  | .inl y :: .inl i :: .inr (.inr (some x)) :: r => (zSh x).1 = 101 ∧ (0 ≤ i ∧ i < ((zSh x).2 : Nat)) ∧ (y = 0 ∨ y = 1) ∧ K (pc + 1) ls r (h.1, z2 h.2.1 x i.toNat y, h.2.2)
  | _ => False
def zo_ald (K : zK) (pc : Nat) (ls : zLv) (st : List zV) (h : zH) : Prop := match st with
  | .inl i :: .inr (.inr (some x)) :: r => (102 ≤ (zSh x).1 ∧ (zSh x).1 ≤ 105) ∧ (0 ≤ i ∧ i < ((zSh x).2 : Nat)) ∧ ∃ v, h.2.2 x i.toNat = v ∧ K (pc + 1) ls (.inr (.inr v) :: r) h
  | _ => False
/-- the classes whose objects a row of references of that type takes -/
def zfit (t c : Nat) : Bool := (t == 102 && c == 5) || (t == 103 && c == 8) || (t == 105 && c == 10) || (t == 104 && (c == 9 || c == 1 || c == 2 || c == 3 || c == 4 || c == 6))
def zo_ast (K : zK) (pc : Nat) (ls : zLv) (st : List zV) (h : zH) : Prop := match st with
  | .inr (.inr (some y)) :: .inl i :: .inr (.inr (some x)) :: r => zfit (zSh x).1 (zSh y).1 = true ∧ (0 ≤ i ∧ i < ((zSh x).2 : Nat)) ∧ K (pc + 1) ls r (h.1, h.2.1, z2 h.2.2 x i.toNat (some y))
  | _ => False
def zo_len (K : zK) (pc : Nat) (ls : zLv) (st : List zV) (h : zH) : Prop := match st with
  | .inr (.inr (some x)) :: r => (100 ≤ (zSh x).1 ∧ (zSh x).1 ≤ 105) ∧ K (pc + 1) ls (.inl ((zSh x).2 : Nat) :: r) h
  | _ => False
def zo_slen (K : zK) (pc : Nat) (ls : zLv) (st : List zV) (h : zH) : Prop := match st with
  | .inr (.inr (some x)) :: r => x = 2000 ∧ K (pc + 1) ls (.inl (h.1.2.2 : Nat) :: r) h
  | _ => False
/-- a new cell; B: how many cells and slots there may be -/
def zo_new (c n : Nat) (B : Nat × Nat) (K : zK) (pc : Nat) (ls : zLv) (st : List zV) (h : zH) : Prop :=
  zSh h.1.1 = (c, n) ∧ h.1.1 + 1 ≤ B.1 ∧ h.1.2.1 + n ≤ B.2 ∧ h.1.1 < 1000 ∧ K pc ls (.inr (.inr (some h.1.1)) :: st) ((h.1.1 + 1, h.1.2.1 + n, h.1.2.2), z1 h.2.1 h.1.1 0, z1 h.2.2 h.1.1 none)
def zo_newa (t : Nat) (B : Nat × Nat) (K : zK) (pc : Nat) (ls : zLv) (st : List zV) (h : zH) : Prop := match st with
  | .inl n :: r => (0 ≤ n ∧ n < 1000) ∧ zo_new (100 + t) n.toNat B K pc ls r h
  | _ => False
def zcs : List zV → Nat
  | [] => 0
  | .inr (.inl _) :: l => zcs l + 2
  | _ :: l => zcs l + 1
def zo_call (C : zCt) (B : Nat × Nat) (k : Nat) (As r : List zV) (K : zK) (pc : Nat) (ls : zLv) (h : zH) : Prop :=
  zcs r ≤ 8 ∧ ∃ mc ms : Nat, (mc = 0 ∨ h.1.1 + mc ≤ B.1) ∧ (ms = 0 ∨ h.1.2.1 + ms ≤ B.2) ∧ C k mc ms As h (fun v h1 => K (pc + 3) ls (zva v r) h1)
def ztk (n : Nat) (st acc : List zV) : List zV × List zV := match n, st with
  | 0, st => (acc, st)
  | n + 1, v :: st => ztk n st (v :: acc)
  | _, [] => ([], [])
def zsel (c : Int) : List (Int × Nat) → Option Nat
  | [] => none
  | (a, k) :: l => match decide (a = c) with
    | true => some k
    | false => zsel c l
def zo_slenS (K : zK) (pc : Nat) (ls : zLv) (st : List zV) (h : zH) : Prop := match st with
  | .inr (.inr (some x)) :: r => zcs r ≤ 8 ∧ (1000 ≤ x ∧ x < 1013) ∧ K (pc + 3) ls (.inl (zvsLen x : Nat) :: r) h
  | _ => False
def zo_satS (K : zK) (pc : Nat) (ls : zLv) (st : List zV) (h : zH) : Prop := match st with
  | .inl i :: .inr (.inr (some x)) :: r => zcs r ≤ 8 ∧ (1000 ≤ x ∧ x < 1013) ∧ (0 ≤ i ∧ i < (zvsLen x : Nat)) ∧ K (pc + 3) ls (.inl (zvsAt x i.toNat) :: r) h
  | _ => False
def zo_acp (K : zK) (pc : Nat) (ls : zLv) (st : List zV) (h : zH) : Prop := match st with
  | .inl n :: .inl j :: .inr (.inr (some b)) :: .inl i :: .inr (.inr (some a)) :: r => zcs r ≤ 8 ∧ (zSh a).1 = 100 ∧ (zSh b).1 = 100 ∧ (0 ≤ n ∧ 0 ≤ i ∧ 0 ≤ j ∧ i + n ≤ ((zSh a).2 : Nat) ∧ j + n ≤ ((zSh b).2 : Nat)) ∧ K (pc + 3) ls r (h.1, zcp h.2.1 a i.toNat b j.toNat n.toNat, h.2.2)
  | _ => False
def zmx (x y : Int) : Int := if x < y then y else x
def zmn (x y : Int) : Int := if y < x then y else x
def zo_mm (f : Int → Int → Int) (K : zK) (pc : Nat) (ls : zLv) (st : List zV) (h : zH) : Prop := match st with
  | .inl y :: .inl x :: r => zcs r ≤ 8 ∧ K (pc + 3) ls (.inl (f x y) :: r) h
  | _ => False
def zo_stat (C : zCt) (B : Nat × Nat) (k n : Nat) (K : zK) (pc : Nat) (ls : zLv) (st : List zV) (h : zH) : Prop := match ztk n st [] with
  | (As, r) => As.length = n ∧ zo_call C B k As r K pc ls h
def zo_spec (C : zCt) (B : Nat × Nat) (k n : Nat) (K : zK) (pc : Nat) (ls : zLv) (st : List zV) (h : zH) : Prop := match ztk n st [] with
  | (As, .inr (.inr (some x)) :: r) => (zSh x).1 < 13 ∧ zo_call C B k (.inr (.inr (some x)) :: As) r K pc ls h
  | _ => False
def zo_virt (C : zCt) (B : Nat × Nat) (l : List (Int × Nat)) (n : Nat) (K : zK) (pc : Nat) (ls : zLv) (st : List zV) (h : zH) : Prop := match ztk n st [] with
  | (As, .inr (.inr (some x)) :: r) => ∃ k, zsel ((zSh x).1 : Nat) l = some k ∧ zo_call C B k (.inr (.inr (some x)) :: As) r K pc ls h
  | _ => False
def zo_oi (K : zK) (pc : Nat) (ls : zLv) (st : List zV) (h : zH) : Prop := match st with
  | .inr (.inr (some _)) :: r => zcs r ≤ 8 ∧ K (pc + 3) ls r h
  | _ => False
def zo_ri (Q : zQ) (st : List zV) (h : zH) : Prop := match st with
  | [.inl x] => Q (some (.inl x)) h
  | _ => False
def zo_rz (Q : zQ) (st : List zV) (h : zH) : Prop := match st with
  | [.inl x] => (x = 0 ∨ x = 1) ∧ Q (some (.inl x)) h
  | _ => False
def zo_rl (Q : zQ) (st : List zV) (h : zH) : Prop := match st with
  | [.inr (.inl x)] => Q (some (.inr (.inl x))) h
  | _ => False
def zo_rr (Q : zQ) (st : List zV) (h : zH) : Prop := match st with
  | [.inr (.inr (some x))] => Q (some (.inr (.inr (some x)))) h
  | _ => False
def zo_rv (Q : zQ) (st : List zV) (h : zH) : Prop := match st with
  | [] => Q none h
  | _ => False
def zstep (C : zCt) (B : Nat × Nat) (Q : zQ) (K : zK) (e : zE) (pc : Nat) (ls : zLv) (st : List zV) (h : zH) : Prop :=
  match e.1 with
  | .iconst n => K (pc + 1) ls (.inl n :: st) h
  | .bipush n => K (pc + 2) ls (.inl n :: st) h
  | .sipush n => K (pc + 3) ls (.inl n :: st) h
  | .lconst n => K (pc + 1) ls (.inr (.inl (n.val : Nat)) :: st) h
  | .ldc _ => match e.2.1 with
    | 0 => K (pc + 2) ls (.inl (zhd e.2.2.2) :: st) h
    | _ => K (pc + 2) ls (.inr (.inr (some (1000 + e.2.2.1))) :: st) h
  | .ldc_w _ => K (pc + 3) ls (.inl (zhd e.2.2.2) :: st) h
  | .ldc2_w _ => K (pc + 3) ls (.inr (.inl (zhd e.2.2.2)) :: st) h
  | .iload_n _ => zo_li e.2.1 1 K pc ls st h
  | .iload _ => zo_li e.2.1 2 K pc ls st h
  | .lload_n _ => zo_ll e.2.1 1 K pc ls st h
  | .lload _ => zo_ll e.2.1 2 K pc ls st h
  | .aload_n _ => zo_lr e.2.1 1 K pc ls st h
  | .aload _ => zo_lr e.2.1 2 K pc ls st h
  | .istore_n _ => zo_si e.2.1 1 K pc ls st h
  | .istore _ => zo_si e.2.1 2 K pc ls st h
  | .lstore_n _ => zo_sl e.2.1 1 K pc ls st h
  | .lstore _ => zo_sl e.2.1 2 K pc ls st h
  | .astore_n _ => zo_sr e.2.1 1 K pc ls st h
  | .astore _ => zo_sr e.2.1 2 K pc ls st h
  | .iinc _ d => zo_inc e.2.1 d K pc ls st h
  | .iadd => zo_i2 (fun x y => zwr (x + y)) K pc ls st h
  | .isub => zo_i2 (fun x y => zwr (x - y)) K pc ls st h
  | .imul => zo_i2 (fun x y => zwr (x * y)) K pc ls st h
  | .idiv => zo_i2n (fun x y => zwr (x.tdiv y)) K pc ls st h
  | .irem => zo_i2n (fun x y => zwr (x.tmod y)) K pc ls st h
  | .ineg => zo_i1 (fun x => zwr (-x)) K pc ls st h
  | .iand => zo_i2 zand K pc ls st h
  | .ior => zo_i2 zor K pc ls st h
  | .ixor => zo_i2 zxor K pc ls st h
  | .ishl => zo_i2 zshl K pc ls st h
  | .ishr => zo_i2 zshr K pc ls st h
  | .iushr => zo_i2 zushr K pc ls st h
  | .i2b => zo_i1 zi2b K pc ls st h
  | .i2s => zo_i1 zi2s K pc ls st h
  | .i2l => zo_i2l K pc ls st h
  | .l2i => zo_l2i K pc ls st h
  | .ladd => zo_l2 (fun x y => zwl (x + y)) K pc ls st h
  | .lsub => zo_l2 (fun x y => zwl (x - y)) K pc ls st h
  | .lmul => zo_l2 (fun x y => zwl (x * y)) K pc ls st h
  | .ldiv => zo_l2n (fun x y => zwl (x.tdiv y)) K pc ls st h
  | .lrem => zo_l2n (fun x y => zwl (x.tmod y)) K pc ls st h
  | .lcmp => zo_lcmp K pc ls st h
  | .dup => zo_dup K pc ls st h
  | .dup2 => zo_dup2 K pc ls st h
  | .dup_x1 => zo_dupx K pc ls st h
  | .pop => zo_pop K pc ls st h
  | .ifCond c _ => zo_c1 c e.2.1 K pc ls st h
  | .if_icmp c _ => zo_c2 c e.2.1 K pc ls st h
  | .goto _ => K e.2.1 ls st h
  | .tableswitch _ _ _ _ => zo_sw e.2.1 e.2.2.2 K ls st h
  | .lookupswitch _ _ => zo_sw e.2.1 e.2.2.2 K ls st h
  | .getfield _ => zo_gf e.2.1 e.2.2.1 K pc ls st h
  | .putfield _ => zo_pf e.2.1 e.2.2.1 K pc ls st h
  | .iaload => match e.2.1 with
    | 0 => zo_ild 100 K pc ls st h
    | _ => zo_sld K pc ls st h
  | .baload => zo_ild 101 K pc ls st h
  | .aaload => zo_ald K pc ls st h
  | .iastore => zo_ist 100 K pc ls st h
  | .bastore => zo_zst K pc ls st h
  | .aastore => zo_ast K pc ls st h
  | .arraylength => match e.2.1 with
    | 0 => zo_len K pc ls st h
    | _ => zo_slen K pc ls st h
  | .new _ => zo_new e.2.1 (zNF e.2.1) B K (pc + 3) ls st h
  | .newarray _ => zo_newa e.2.1 B K (pc + 2) ls st h
  | .anewarray _ => zo_newa e.2.1 B K (pc + 3) ls st h
  | .invokestatic _ => match e.2.1 with
    | 1000 => zo_acp K pc ls st h
    | 1004 => zo_mm zmx K pc ls st h
    | 1005 => zo_mm zmn K pc ls st h
    | k => zo_stat C B k e.2.2.1 K pc ls st h
  | .invokespecial _ => match e.2.1 with
    | 1003 => zo_oi K pc ls st h
    | k => zo_spec C B k e.2.2.1 K pc ls st h
  | .invokevirtual _ => match e.2.1 with
    | 1001 => zo_slenS K pc ls st h
    | 1002 => zo_satS K pc ls st h
    | _ => zo_virt C B e.2.2.2 e.2.2.1 K pc ls st h
  | .ireturn => match e.2.1 with
    | 0 => zo_ri Q st h
    | _ => zo_rz Q st h
  | .lreturn => zo_rl Q st h
  | .areturn => zo_rr Q st h
  | .return_ => zo_rv Q st h
  | _ => False
/-- from here the machine comes to its end with Q: the least such -/
def zRn (C : zCt) (k : Nat) (B : Nat × Nat) (Q : zQ) (pc : Nat) (ls : zLv) (st : List zV) (h : zH) : Prop :=
  ∀ P : zK, (∀ pc ls st h, zstep C B Q P (zF k pc) pc ls st h → P pc ls st h) → P pc ls st h
/-- the places of cells that there are -/
def zEq (h h1 : zH) : Prop := h.1 = h1.1 ∧ (∀ x, (x < h.1.1 ∨ x = 2000) → ∀ j, h.2.1 x j = h1.2.1 x j) ∧ ∀ x, x < h.1.1 → ∀ j, j < (zSh x).2 → h.2.2 x j = h1.2.2 x j
def zens : Nat → List zV → zLv
  | n, [] => List.replicate n none
  | n + 2, .inr (.inl x) :: l => some (.inr (.inl x)) :: none :: zens n l
  | n + 1, v :: l => some v :: zens n l
  | _, _ => []
def zcl : Nat → zCt
  | 0 => fun _ _ _ _ _ _ => False
  | d + 1 => fun k mc ms As h Q => zcs As ≤ zL k ∧ ∃ h1, zEq h h1 ∧ zRn (zcl d) k (h.1.1 + mc, h.1.2.1 + ms) (fun v h2 => h2.1 = (h.1.1 + mc, h.1.2.1 + ms, h.1.2.2) ∧ Q v h2) 0 (zens (zL k) As) [] h1
-- monotone
theorem zsw_mono {x : Int} {d : Nat} {K K1 : Nat → Prop} (hK : ∀ t, K t → K1 t) : ∀ l, zsw x d K l → zsw x d K1 l
  | [], h => hK _ h
  | (_, _) :: l, h => ⟨fun e => hK _ (h.1 e), fun e => zsw_mono hK l (h.2 e)⟩
section
variable {C : zCt} {B : Nat × Nat} {Q Q2 : zQ} {K K1 : zK}
theorem zo_call_mono (hK : ∀ pc ls st h, K pc ls st h → K1 pc ls st h) (hC : ∀ k mc ms As h Q Q1, (∀ v h, Q v h → Q1 v h) → C k mc ms As h Q → C k mc ms As h Q1) {k : Nat} {As r : List zV} {pc : Nat} {ls : zLv} {h : zH} (H : zo_call C B k As r K pc ls h) : zo_call C B k As r K1 pc ls h := by
  obtain ⟨h0, mc, ms, h1, h2, h3⟩ := H
  exact ⟨h0, mc, ms, h1, h2, hC _ _ _ _ _ _ _ (fun v h => hK _ _ _ _) h3⟩
set_option maxHeartbeats 4000000 in
theorem zstep_mono (hK : ∀ pc ls st h, K pc ls st h → K1 pc ls st h) (hQ : ∀ v h, Q v h → Q2 v h) (hC : ∀ k mc ms As h Q Q1, (∀ v h, Q v h → Q1 v h) → C k mc ms As h Q → C k mc ms As h Q1) (e : zE) (pc : Nat) (ls : zLv) (st : List zV) (h : zH) : zstep C B Q K e pc ls st h → zstep C B Q2 K1 e pc ls st h := by
  intro H
  unfold zstep at H ⊢
  split at H
  all_goals first
    | exact hK _ _ _ _ H
    | (unfold zo_li at H ⊢; split at H <;> first | exact hK _ _ _ _ H | exact H)
    | (unfold zo_ll at H ⊢; split at H <;> first | exact hK _ _ _ _ H | exact H)
    | (unfold zo_lr at H ⊢; split at H <;> first | exact hK _ _ _ _ H | exact H)
    | (unfold zo_i2 at H ⊢; split at H <;> first | exact hK _ _ _ _ H | exact H)
    | (unfold zo_i2n at H ⊢; split at H <;> first | exact ⟨H.1, hK _ _ _ _ H.2⟩ | exact H)
    | (unfold zo_i1 at H ⊢; split at H <;> first | exact hK _ _ _ _ H | exact H)
    | (unfold zo_l2 at H ⊢; split at H <;> first | exact hK _ _ _ _ H | exact H)
    | (unfold zo_l2n at H ⊢; split at H <;> first | exact ⟨H.1, hK _ _ _ _ H.2⟩ | exact H)
    | (unfold zo_lcmp at H ⊢; split at H <;> first | exact hK _ _ _ _ H | exact H)
    | (unfold zo_i2l at H ⊢; split at H <;> first | exact hK _ _ _ _ H | exact H)
    | (unfold zo_l2i at H ⊢; split at H <;> first | exact hK _ _ _ _ H | exact H)
    | (unfold zo_dup at H ⊢; split at H <;> first | exact hK _ _ _ _ H | exact H)
    | (unfold zo_dup2 at H ⊢; split at H <;> first | exact hK _ _ _ _ H | exact H)
    | (unfold zo_dupx at H ⊢; split at H <;> first | exact hK _ _ _ _ H | exact H)
    | (unfold zo_pop at H ⊢; split at H <;> first | exact hK _ _ _ _ H | exact H)
    | (unfold zo_c1 at H ⊢; split at H <;> first | (split at H <;> exact ⟨fun e => hK _ _ _ _ (H.1 e), fun e => hK _ _ _ _ (H.2 e)⟩) | exact H)
    | (unfold zo_c2 at H ⊢; split at H <;> first | (split at H <;> exact ⟨fun e => hK _ _ _ _ (H.1 e), fun e => hK _ _ _ _ (H.2 e)⟩) | exact H)
    | (unfold zo_si at H ⊢; split at H <;> first | (split at H <;> first | exact hK _ _ _ _ H | exact H) | exact H)
    | (unfold zo_sr at H ⊢; split at H <;> first | (split at H <;> first | exact hK _ _ _ _ H | exact H) | exact H)
    | (unfold zo_sl at H ⊢; split at H <;> first | (split at H <;> first | exact hK _ _ _ _ H | exact H) | exact H)
    | (unfold zo_inc at H ⊢; split at H <;> first | (split at H <;> first | exact hK _ _ _ _ H | exact H) | exact H)
    | (unfold zo_sw at H ⊢; split at H <;> first | exact zsw_mono (fun t => hK _ _ _ _) _ H | exact H)
    | (unfold zo_gf at H ⊢; split at H <;> first | (refine ⟨H.1, ?_⟩; have H2 := H.2; split at H2 <;> first | exact hK _ _ _ _ H2 | exact ⟨H2.choose, H2.choose_spec.1, hK _ _ _ _ H2.choose_spec.2⟩) | exact H)
    | (unfold zo_pf at H ⊢; split at H <;> first | (refine ⟨H.1, ?_⟩; have H2 := H.2; split at H2 <;> first | exact hK _ _ _ _ H2 | exact ⟨H2.1, hK _ _ _ _ H2.2⟩ | exact H2) | exact H)
    | (unfold zo_ild at H ⊢; split at H <;> first | exact ⟨H.1, H.2.1, hK _ _ _ _ H.2.2⟩ | exact H)
    | (unfold zo_ist at H ⊢; split at H <;> first | exact ⟨H.1, H.2.1, hK _ _ _ _ H.2.2⟩ | exact H)
    | (unfold zo_ast at H ⊢; split at H <;> first | exact ⟨H.1, H.2.1, hK _ _ _ _ H.2.2⟩ | exact H)
    | (unfold zo_zst at H ⊢; split at H <;> first | exact ⟨H.1, H.2.1, H.2.2.1, hK _ _ _ _ H.2.2.2⟩ | exact H)
    | (unfold zo_ald at H ⊢; split at H <;> first | exact ⟨H.1, H.2.1, H.2.2.choose, H.2.2.choose_spec.1, hK _ _ _ _ H.2.2.choose_spec.2⟩ | exact H)
    | (unfold zo_new at H ⊢; exact ⟨H.1, H.2.1, H.2.2.1, H.2.2.2.1, hK _ _ _ _ H.2.2.2.2⟩)
    | (unfold zo_newa zo_new at H ⊢; split at H <;> first | exact ⟨H.1, H.2.1, H.2.2.1, H.2.2.2.1, H.2.2.2.2.1, hK _ _ _ _ H.2.2.2.2.2⟩ | exact H)
    | (split at H <;> first
        | exact hK _ _ _ _ H
        | (unfold zo_ild at H ⊢; split at H <;> first | exact ⟨H.1, H.2.1, hK _ _ _ _ H.2.2⟩ | exact H)
        | (unfold zo_sld at H ⊢; split at H <;> first | exact ⟨H.1, H.2.1, hK _ _ _ _ H.2.2⟩ | exact H)
        | (unfold zo_len at H ⊢; split at H <;> first | exact ⟨H.1, hK _ _ _ _ H.2⟩ | exact H)
        | (unfold zo_slen at H ⊢; split at H <;> first | exact ⟨H.1, hK _ _ _ _ H.2⟩ | exact H)
        | (unfold zo_acp at H ⊢; split at H <;> first | exact ⟨H.1, H.2.1, H.2.2.1, H.2.2.2.1, hK _ _ _ _ H.2.2.2.2⟩ | exact H)
        | (unfold zo_mm at H ⊢; split at H <;> first | exact ⟨H.1, hK _ _ _ _ H.2⟩ | exact H)
        | (unfold zo_oi at H ⊢; split at H <;> first | exact ⟨H.1, hK _ _ _ _ H.2⟩ | exact H)
        | (unfold zo_slenS at H ⊢; split at H <;> first | exact ⟨H.1, H.2.1, hK _ _ _ _ H.2.2⟩ | exact H)
        | (unfold zo_satS at H ⊢; split at H <;> first | exact ⟨H.1, H.2.1, H.2.2.1, hK _ _ _ _ H.2.2.2⟩ | exact H)
        | (unfold zo_stat at H ⊢; split at H; exact ⟨H.1, zo_call_mono hK hC H.2⟩)
        | (unfold zo_spec at H ⊢; split at H <;> first | exact ⟨H.1, zo_call_mono hK hC H.2⟩ | exact H)
        | (unfold zo_virt at H ⊢; split at H <;> first | exact ⟨H.choose, H.choose_spec.1, zo_call_mono hK hC H.choose_spec.2⟩ | exact H))
    | (split at H <;> first | (unfold zo_ri at H ⊢; split at H <;> first | exact hQ _ _ H | exact H) | (unfold zo_rz at H ⊢; split at H <;> first | exact ⟨H.1, hQ _ _ H.2⟩ | exact H))
    | (unfold zo_rl at H ⊢; split at H <;> first | exact hQ _ _ H | exact H)
    | (unfold zo_rr at H ⊢; split at H <;> first | exact hQ _ _ H | exact H)
    | (unfold zo_rv at H ⊢; split at H <;> first | exact hQ _ _ H | exact H)
    | exact H
end

