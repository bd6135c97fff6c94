/-! PM: a pure machine over Int memory. A value: an int, a long, a reference (a cell's number) or nothing (null, an unset local). -/
abbrev pV : Type := Int ⊕ (Int ⊕ Option Nat)
abbrev pI (x : Int) : pV := Sum.inl x
abbrev pL (x : Int) : pV := Sum.inr (Sum.inl x)
abbrev pR (n : Nat) : pV := Sum.inr (Sum.inr (some n))
abbrev pU : pV := Sum.inr (Sum.inr none)
/-- memory: cell, slot -/
abbrev pG : Type := Nat → Nat → Int
/-- layout: (cells, slots) made; of a cell its kind (a class' number, or 100 int, 101 long, 102 byte, 103 rows) and size; references in cells -/
abbrev pY : Type := (Nat × Nat) × (Nat → Nat × Int) × (Nat → Nat → Option Nat)
/-- an instruction, made plain: what it is, its length, three numbers -/
abbrev pE : Type := Instr × Nat × Nat × Nat × Int
abbrev pT : Type := List (List (Option pE))
def pn {α : Type} : List α → Nat → Option α
  | [], _ => none
  | a :: _, 0 => some a
  | _ :: l, n + 1 => pn l n
def pn2 {α : Type} (t : List (List α)) (i : Nat) : Option α := match pn t (i / 16) with
  | some l => pn l (i % 16)
  | none => none
def plook (t : pT) (pc : Nat) : Option pE := match pn2 t pc with
  | some (some e) => some e
  | _ => none
def pset (G : pG) (i k : Nat) (v : Int) : pG := fun a => if a = i then (fun b => if b = k then v else G a b) else G a
/-- a copy of n slots of one cell into another -/
def pcpy (G : pG) (a0 sp a dp n : Nat) : pG := fun i => if i = a then (fun k => if dp ≤ k ∧ k < dp + n then G a0 (sp + (k - dp)) else G i k) else G i
def w32 (x : Int) : Int := (Int32.ofInt x).toInt
def w64 (x : Int) : Int := (Int64.ofInt x).toInt
def w8 (x : Int) : Int := (Int32.ofInt x).toInt8.toInt32.toInt
def pand (x y : Int) : Int := (Int32.ofInt x &&& Int32.ofInt y).toInt
def por (x y : Int) : Int := (Int32.ofInt x ||| Int32.ofInt y).toInt
def pxor (x y : Int) : Int := (Int32.ofInt x ^^^ Int32.ofInt y).toInt
def pshl (x y : Int) : Int := (Int32.ofInt x <<< (Int32.ofInt y &&& 31)).toInt
def pshr (x y : Int) : Int := (Int32.ofInt x >>> (Int32.ofInt y &&& 31)).toInt
def push' (x y : Int) : Int := ((Int32.ofInt x).toUInt32 >>> ((Int32.ofInt y).toUInt32 &&& Int32.toUInt32 31)).toInt32.toInt
def pdiv (x y : Int) : Int := (Int32.ofInt x / Int32.ofInt y).toInt
def prem (x y : Int) : Int := (Int32.ofInt x - Int32.ofInt x / Int32.ofInt y * Int32.ofInt y).toInt
def pland (x y : Int) : Int := (Int64.ofInt x &&& Int64.ofInt y).toInt
def plor (x y : Int) : Int := (Int64.ofInt x ||| Int64.ofInt y).toInt
def plshl (x y : Int) : Int := (Int64.ofInt x <<< ((Int32.ofInt y).toInt64 &&& 63)).toInt
def plshr (x y : Int) : Int := (Int64.ofInt x >>> ((Int32.ofInt y).toInt64 &&& 63)).toInt
def pldiv (x y : Int) : Int := (Int64.ofInt x / Int64.ofInt y).toInt
def plrem (x y : Int) : Int := (Int64.ofInt x - Int64.ofInt x / Int64.ofInt y * Int64.ofInt y).toInt
def plcmp (x y : Int) : Int := if x > y then 1 else if x = y then 0 else -1
def pmx (x y : Int) : Int := if x < y then y else x
def pmn (x y : Int) : Int := if y < x then y else x
/-- a store into the locals: a long ahead of it is no more -/
def plst : List pV → Nat → pV → List pV
  | [], _, _ => []
  | _ :: t, 0, v => v :: t
  | .inr (.inl _) :: t, 1, v => pU :: plst t 0 v
  | h :: t, i + 1, v => h :: plst t i v
def plst2 (l : List pV) (i : Nat) (v : pV) : List pV := plst (plst l (i + 1) pU) i v
/-- a method's locals at its start -/
def pent : List pV → Nat → List pV
  | [], n => List.replicate n pU
  | .inr (.inl x) :: t, n => pL x :: pU :: pent t (n - 2)
  | v :: t, n => v :: pent t (n - 1)
def ppop : Nat → List pV → List pV → Option (List pV × List pV)
  | 0, st, acc => some (acc, st)
  | n + 1, v :: st, acc => ppop n st (v :: acc)
  | _ + 1, [], _ => none
def pcat : List pV → Nat
  | [] => 0
  | .inr (.inl _) :: t => 2 + pcat t
  | _ :: t => 1 + pcat t
/-- shapes of the stack -/
def k_i {α : Type} (stk : List pV) (z : α) (k : Int → List pV → α) : α := match stk with
  | .inl x :: st => k x st
  | _ => z
def k_l {α : Type} (stk : List pV) (z : α) (k : Int → List pV → α) : α := match stk with
  | .inr (.inl x) :: st => k x st
  | _ => z
def k_r {α : Type} (stk : List pV) (z : α) (k : Nat → List pV → α) : α := match stk with
  | .inr (.inr (some x)) :: st => k x st
  | _ => z
def k_ii {α : Type} (stk : List pV) (z : α) (k : Int → Int → List pV → α) : α := match stk with
  | .inl y :: .inl x :: st => k x y st
  | _ => z
def k_ll {α : Type} (stk : List pV) (z : α) (k : Int → Int → List pV → α) : α := match stk with
  | .inr (.inl y) :: .inr (.inl x) :: st => k x y st
  | _ => z
def k_li {α : Type} (stk : List pV) (z : α) (k : Int → Int → List pV → α) : α := match stk with
  | .inl y :: .inr (.inl x) :: st => k x y st
  | _ => z
def k_ri {α : Type} (stk : List pV) (z : α) (k : Nat → Int → List pV → α) : α := match stk with
  | .inl y :: .inr (.inr (some x)) :: st => k x y st
  | _ => z
def k_rl {α : Type} (stk : List pV) (z : α) (k : Nat → Int → List pV → α) : α := match stk with
  | .inr (.inl y) :: .inr (.inr (some x)) :: st => k x y st
  | _ => z
def k_rr {α : Type} (stk : List pV) (z : α) (k : Nat → Nat → List pV → α) : α := match stk with
  | .inr (.inr (some y)) :: .inr (.inr (some x)) :: st => k x y st
  | _ => z
def k_rii {α : Type} (stk : List pV) (z : α) (k : Nat → Int → Int → List pV → α) : α := match stk with
  | .inl v :: .inl y :: .inr (.inr (some x)) :: st => k x y v st
  | _ => z
def k_ril {α : Type} (stk : List pV) (z : α) (k : Nat → Int → Int → List pV → α) : α := match stk with
  | .inr (.inl v) :: .inl y :: .inr (.inr (some x)) :: st => k x y v st
  | _ => z
def k_cp {α : Type} (stk : List pV) (z : α) (k : Nat → Int → Nat → Int → Int → List pV → α) : α := match stk with
  | .inl n :: .inl dp :: .inr (.inr (some a)) :: .inl sp :: .inr (.inr (some a0)) :: st => k a0 sp a dp n st
  | _ => z
def k_c1 {α : Type} (v : pV) (z : α) (k : pV → α) : α := match v with
  | .inr (.inl _) => z
  | w => k w
def k_d {α : Type} (stk : List pV) (z : α) (k : pV → List pV → α) : α := match stk with
  | v :: st => k_c1 v z (fun w => k w st)
  | _ => z
def k_d2 {α : Type} (stk : List pV) (z : α) (k : pV → pV → List pV → α) : α := match stk with
  | v :: w :: st => k_c1 v z (fun v => k_c1 w z (fun w => k v w st))
  | _ => z
def k_op {α β : Type} (o : Option β) (z : α) (k : β → α) : α := match o with
  | some b => k b
  | none => z
def k_oi {α : Type} (o : Option pV) (z : α) (k : Int → α) : α := match o with
  | some (.inl x) => k x
  | _ => z
def k_ol {α : Type} (o : Option pV) (z : α) (k : Int → α) : α := match o with
  | some (.inr (.inl x)) => k x
  | _ => z
def k_or {α : Type} (o : Option pV) (z : α) (k : Nat → α) : α := match o with
  | some (.inr (.inr (some x))) => k x
  | _ => z
/-- strings: a constant's number is 500 and its place -/
def pstr : List (List Int) := [[116, 111, 111, 108], [115, 116, 101, 112], [97, 102, 116, 101, 114], [109, 101, 101, 116], [105, 100, 108, 101]]
/-- what a step comes to: on (pc, locals, stack, layout, memory), a call (method, arguments, rest), an end -/
abbrev pO : Type := (Nat × List pV × List pV × pY × pG) ⊕ ((Nat × List pV × List pV) ⊕ Option pV)
def pnw (Y : pY) (kind : Nat) (len : Int) : pY := ((Y.1.1 + 1, Y.1.2 + len.toNat), (fun i => if i = Y.1.1 then (kind, len) else Y.2.1 i), (fun i => if i = Y.1.1 then (fun _ => none) else Y.2.2 i))
def pz (G : pG) (n : Nat) : pG := fun i => if i = n then (fun _ => 0) else G i
/-- new int[N][K] -/
def pmn2 (Y : pY) (N K : Nat) : pY := ((Y.1.1 + 1 + N, Y.1.2 + N + N * K), (fun i => if i < Y.1.1 then Y.2.1 i else if i = Y.1.1 then (103, (N : Int)) else if i < Y.1.1 + 1 + N then (100, (K : Int)) else Y.2.1 i), (fun i => if i = Y.1.1 then (fun j => if j < N then some (Y.1.1 + 1 + j) else none) else if Y.1.1 < i ∧ i < Y.1.1 + 1 + N then (fun _ => none) else Y.2.2 i))
def pz2 (G : pG) (n N : Nat) : pG := fun i => if n ≤ i ∧ i < n + 1 + N then (fun _ => 0) else G i
def prf (Y : pY) (r k q : Nat) : pY := (Y.1, Y.2.1, fun i => if i = r then (fun j => if j = k then some q else Y.2.2 i j) else Y.2.2 i)
def pcc (cc : ClassFile.Cond) (x y : Int) : Bool := match cc with
  | .eq => decide (x = y)
  | .ne => decide (x ≠ y)
  | .lt => decide (x < y)
  | .ge => decide (y ≤ x)
  | .gt => decide (y < x)
  | .le => decide (x ≤ y)
def plks : List (Int × Int) → Int → Int → Int
  | [], d, _ => d
  | (k, o) :: r, d, x => if x = k then o else plks r d x
def precv (Y : pY) (c : Int) (as : List pV) : Bool := match as with
  | .inr (.inr (some r)) :: _ => Nat.beq (Y.2.1 r).1 c.toNat
  | _ => false
def pmem : List Nat → Nat → Bool
  | [], _ => false
  | a :: l, n => Nat.beq a n || pmem l n
