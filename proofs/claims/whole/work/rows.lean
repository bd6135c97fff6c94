section
/-! PM: a pure machine over Int memory. A value: an int, a long, a reference (a cell's number) or nothing (null, an unset local). -/
abbrev pV : Type := Int ⊕ (Int ⊕ Option Nat)
abbrev pI (x : Int) : pV := Sum.inl x
abbrev pL (x : Int) : pV := Sum.inr (Sum.inl x)
abbrev pR (n : Nat) : pV := Sum.inr (Sum.inr (some n))
abbrev pU : pV := Sum.inr (Sum.inr none)
/-- memory: cell, slot -/
abbrev pG : Type := Nat → Nat → Int
/-- layout: (cells, slots) made; of a cell its kind (a class' number, or 100 int, 101 long, 102 byte, 103 rows) and size; references in cells -/
abbrev pY : Type := (Nat × Nat) × (Nat → Nat × Int) × (Nat → Nat → Option Nat)
/-- an instruction, made plain: what it is, its length, three numbers -/
abbrev pE : Type := Instr × Nat × Nat × Nat × Int
abbrev pT : Type := List (List (Option pE))
def pn {α : Type} : List α → Nat → Option α
  | [], _ => none
  | a :: _, 0 => some a
  | _ :: l, n + 1 => pn l n
def pn2 {α : Type} (t : List (List α)) (i : Nat) : Option α := match pn t (i / 16) with
  | some l => pn l (i % 16)
  | none => none
def plook (t : pT) (pc : Nat) : Option pE := match pn2 t pc with
  | some (some e) => some e
  | _ => none
def pset (G : pG) (i k : Nat) (v : Int) : pG := fun a => if a = i then (fun b => if b = k then v else G a b) else G a
/-- a copy of n slots of one cell into another -/
def pcpy (G : pG) (a0 sp a dp n : Nat) : pG := fun i => if i = a then (fun k => if dp ≤ k ∧ k < dp + n then G a0 (sp + (k - dp)) else G i k) else G i
def w32 (x : Int) : Int := (Int32.ofInt x).toInt
def w64 (x : Int) : Int := (Int64.ofInt x).toInt
def w8 (x : Int) : Int := (Int32.ofInt x).toInt8.toInt32.toInt
def pand (x y : Int) : Int := (Int32.ofInt x &&& Int32.ofInt y).toInt
def por (x y : Int) : Int := (Int32.ofInt x ||| Int32.ofInt y).toInt
def pxor (x y : Int) : Int := (Int32.ofInt x ^^^ Int32.ofInt y).toInt
def pshl (x y : Int) : Int := (Int32.ofInt x <<< (Int32.ofInt y &&& 31)).toInt
def pshr (x y : Int) : Int := (Int32.ofInt x >>> (Int32.ofInt y &&& 31)).toInt
def push' (x y : Int) : Int := ((Int32.ofInt x).toUInt32 >>> ((Int32.ofInt y).toUInt32 &&& Int32.toUInt32 31)).toInt32.toInt
def pdiv (x y : Int) : Int := (Int32.ofInt x / Int32.ofInt y).toInt
def prem (x y : Int) : Int := (Int32.ofInt x - Int32.ofInt x / Int32.ofInt y * Int32.ofInt y).toInt
def pland (x y : Int) : Int := (Int64.ofInt x &&& Int64.ofInt y).toInt
def plor (x y : Int) : Int := (Int64.ofInt x ||| Int64.ofInt y).toInt
def plshl (x y : Int) : Int := (Int64.ofInt x <<< ((Int32.ofInt y).toInt64 &&& 63)).toInt
def plshr (x y : Int) : Int := (Int64.ofInt x >>> ((Int32.ofInt y).toInt64 &&& 63)).toInt
def pldiv (x y : Int) : Int := (Int64.ofInt x / Int64.ofInt y).toInt
def plrem (x y : Int) : Int := (Int64.ofInt x - Int64.ofInt x / Int64.ofInt y * Int64.ofInt y).toInt
def plcmp (x y : Int) : Int := if x > y then 1 else if x = y then 0 else -1
def pmx (x y : Int) : Int := if x < y then y else x
def pmn (x y : Int) : Int := if y < x then y else x
/-- a store into the locals: a long ahead of it is no more -/
def plst : List pV → Nat → pV → List pV
  | [], _, _ => []
  | _ :: t, 0, v => v :: t
  | .inr (.inl _) :: t, 1, v => pU :: plst t 0 v
  | h :: t, i + 1, v => h :: plst t i v
def plst2 (l : List pV) (i : Nat) (v : pV) : List pV := plst (plst l (i + 1) pU) i v
/-- a method's locals at its start -/
def pent : List pV → Nat → List pV
  | [], n => List.replicate n pU
  | .inr (.inl x) :: t, n => pL x :: pU :: pent t (n - 2)
  | v :: t, n => v :: pent t (n - 1)
def ppop : Nat → List pV → List pV → Option (List pV × List pV)
  | 0, st, acc => some (acc, st)
  | n + 1, v :: st, acc => ppop n st (v :: acc)
  | _ + 1, [], _ => none
def pcat : List pV → Nat
  | [] => 0
  | .inr (.inl _) :: t => 2 + pcat t
  | _ :: t => 1 + pcat t
/-- shapes of the stack -/
def k_i {α : Type} (stk : List pV) (z : α) (k : Int → List pV → α) : α := match stk with
  | .inl x :: st => k x st
  | _ => z
def k_l {α : Type} (stk : List pV) (z : α) (k : Int → List pV → α) : α := match stk with
  | .inr (.inl x) :: st => k x st
  | _ => z
def k_r {α : Type} (stk : List pV) (z : α) (k : Nat → List pV → α) : α := match stk with
  | .inr (.inr (some x)) :: st => k x st
  | _ => z
def k_ii {α : Type} (stk : List pV) (z : α) (k : Int → Int → List pV → α) : α := match stk with
  | .inl y :: .inl x :: st => k x y st
  | _ => z
def k_ll {α : Type} (stk : List pV) (z : α) (k : Int → Int → List pV → α) : α := match stk with
  | .inr (.inl y) :: .inr (.inl x) :: st => k x y st
  | _ => z
def k_li {α : Type} (stk : List pV) (z : α) (k : Int → Int → List pV → α) : α := match stk with
  | .inl y :: .inr (.inl x) :: st => k x y st
  | _ => z
def k_ri {α : Type} (stk : List pV) (z : α) (k : Nat → Int → List pV → α) : α := match stk with
  | .inl y :: .inr (.inr (some x)) :: st => k x y st
  | _ => z
def k_rl {α : Type} (stk : List pV) (z : α) (k : Nat → Int → List pV → α) : α := match stk with
  | .inr (.inl y) :: .inr (.inr (some x)) :: st => k x y st
  | _ => z
def k_rr {α : Type} (stk : List pV) (z : α) (k : Nat → Nat → List pV → α) : α := match stk with
  | .inr (.inr (some y)) :: .inr (.inr (some x)) :: st => k x y st
  | _ => z
def k_rii {α : Type} (stk : List pV) (z : α) (k : Nat → Int → Int → List pV → α) : α := match stk with
  | .inl v :: .inl y :: .inr (.inr (some x)) :: st => k x y v st
  | _ => z
def k_ril {α : Type} (stk : List pV) (z : α) (k : Nat → Int → Int → List pV → α) : α := match stk with
  | .inr (.inl v) :: .inl y :: .inr (.inr (some x)) :: st => k x y v st
  | _ => z
def k_cp {α : Type} (stk : List pV) (z : α) (k : Nat → Int → Nat → Int → Int → List pV → α) : α := match stk with
  | .inl n :: .inl dp :: .inr (.inr (some a)) :: .inl sp :: .inr (.inr (some a0)) :: st => k a0 sp a dp n st
  | _ => z
def k_c1 {α : Type} (v : pV) (z : α) (k : pV → α) : α := match v with
  | .inr (.inl _) => z
  | w => k w
def k_d {α : Type} (stk : List pV) (z : α) (k : pV → List pV → α) : α := match stk with
  | v :: st => k_c1 v z (fun w => k w st)
  | _ => z
def k_d2 {α : Type} (stk : List pV) (z : α) (k : pV → pV → List pV → α) : α := match stk with
  | v :: w :: st => k_c1 v z (fun v => k_c1 w z (fun w => k v w st))
  | _ => z
def k_op {α β : Type} (o : Option β) (z : α) (k : β → α) : α := match o with
  | some b => k b
  | none => z
def k_oi {α : Type} (o : Option pV) (z : α) (k : Int → α) : α := match o with
  | some (.inl x) => k x
  | _ => z
def k_ol {α : Type} (o : Option pV) (z : α) (k : Int → α) : α := match o with
  | some (.inr (.inl x)) => k x
  | _ => z
def k_or {α : Type} (o : Option pV) (z : α) (k : Nat → α) : α := match o with
  | some (.inr (.inr (some x))) => k x
  | _ => z
/-- strings: a constant's number is 500 and its place -/
def pstr : List (List Int) := [[116, 111, 111, 108], [115, 116, 101, 112], [97, 102, 116, 101, 114], [109, 101, 101, 116], [105, 100, 108, 101]]
/-- what a step comes to: on (pc, locals, stack, layout, memory), a call (method, arguments, rest), an end -/
abbrev pO : Type := (Nat × List pV × List pV × pY × pG) ⊕ ((Nat × List pV × List pV) ⊕ Option pV)
def pnw (Y : pY) (kind : Nat) (len : Int) : pY := ((Y.1.1 + 1, Y.1.2 + len.toNat), (fun i => if i = Y.1.1 then (kind, len) else Y.2.1 i), (fun i => if i = Y.1.1 then (fun _ => none) else Y.2.2 i))
def pz (G : pG) (n : Nat) : pG := fun i => if i = n then (fun _ => 0) else G i
/-- new int[N][K] -/
def pmn2 (Y : pY) (N K : Nat) : pY := ((Y.1.1 + 1 + N, Y.1.2 + N + N * K), (fun i => if i < Y.1.1 then Y.2.1 i else if i = Y.1.1 then (103, (N : Int)) else if i < Y.1.1 + 1 + N then (100, (K : Int)) else Y.2.1 i), (fun i => if i = Y.1.1 then (fun j => if j < N then some (Y.1.1 + 1 + j) else none) else if Y.1.1 < i ∧ i < Y.1.1 + 1 + N then (fun _ => none) else Y.2.2 i))
def pz2 (G : pG) (n N : Nat) : pG := fun i => if n ≤ i ∧ i < n + 1 + N then (fun _ => 0) else G i
def prf (Y : pY) (r k q : Nat) : pY := (Y.1, Y.2.1, fun i => if i = r then (fun j => if j = k then some q else Y.2.2 i j) else Y.2.2 i)
def pcc (cc : ClassFile.Cond) (x y : Int) : Bool := match cc with
  | .eq => decide (x = y)
  | .ne => decide (x ≠ y)
  | .lt => decide (x < y)
  | .ge => decide (y ≤ x)
  | .gt => decide (y < x)
  | .le => decide (x ≤ y)
def plks : List (Int × Int) → Int → Int → Int
  | [], d, _ => d
  | (k, o) :: r, d, x => if x = k then o else plks r d x
def precv (Y : pY) (c : Int) (as : List pV) : Bool := match as with
  | .inr (.inr (some r)) :: _ => Nat.beq (Y.2.1 r).1 c.toNat
  | _ => false
def pmem : List Nat → Nat → Bool
  | [], _ => false
  | a :: l, n => Nat.beq a n || pmem l n
end
section
def pnx (Y : pY) (G : pG) (pc : Nat) (loc stk : List pV) : Option pO := some (.inl (pc, loc, stk, Y, G))
/-- one step of the pure machine -/
def pstep (Y : pY) (G : pG) (e : pE) (pc : Nat) (loc stk : List pV) : Option pO :=
  match e with
  | (o, len, a, b, c) => match o with
    | .iconst x => pnx Y G (pc + len) loc (pI x :: stk)
    | .ldc2_w _ => pnx Y G (pc + len) loc (pL c :: stk)
    | .ldc _ => pnx Y G (pc + len) loc (pR a :: stk)
    | .iload i => k_oi (pn loc i) none (fun x => pnx Y G (pc + len) loc (pI x :: stk))
    | .lload i => k_ol (pn loc i) none (fun x => pnx Y G (pc + len) loc (pL x :: stk))
    | .aload i => k_or (pn loc i) none (fun x => pnx Y G (pc + len) loc (pR x :: stk))
    | .istore i => k_i stk none (fun x st => pnx Y G (pc + len) (plst loc i (pI x)) st)
    | .lstore i => k_l stk none (fun x st => pnx Y G (pc + len) (plst2 loc i (pL x)) st)
    | .astore i => k_r stk none (fun x st => pnx Y G (pc + len) (plst loc i (pR x)) st)
    | .iinc i k => k_oi (pn loc i) none (fun x => pnx Y G (pc + len) (plst loc i (pI (w32 (x + k)))) stk)
    | .iadd => k_ii stk none (fun x y st => pnx Y G (pc + len) loc (pI (w32 (x + y)) :: st))
    | .isub => k_ii stk none (fun x y st => pnx Y G (pc + len) loc (pI (w32 (x - y)) :: st))
    | .imul => k_ii stk none (fun x y st => pnx Y G (pc + len) loc (pI (w32 (x * y)) :: st))
    | .iand => k_ii stk none (fun x y st => pnx Y G (pc + len) loc (pI (pand x y) :: st))
    | .ior => k_ii stk none (fun x y st => pnx Y G (pc + len) loc (pI (por x y) :: st))
    | .ixor => k_ii stk none (fun x y st => pnx Y G (pc + len) loc (pI (pxor x y) :: st))
    | .ishl => k_ii stk none (fun x y st => pnx Y G (pc + len) loc (pI (pshl x y) :: st))
    | .ishr => k_ii stk none (fun x y st => pnx Y G (pc + len) loc (pI (pshr x y) :: st))
    | .iushr => k_ii stk none (fun x y st => pnx Y G (pc + len) loc (pI (push' x y) :: st))
    | .idiv => k_ii stk none (fun x y st => if y = 0 then none else pnx Y G (pc + len) loc (pI (pdiv x y) :: st))
    | .irem => k_ii stk none (fun x y st => if y = 0 then none else pnx Y G (pc + len) loc (pI (prem x y) :: st))
    | .ineg => k_i stk none (fun x st => pnx Y G (pc + len) loc (pI (w32 (-x)) :: st))
    | .ladd => k_ll stk none (fun x y st => pnx Y G (pc + len) loc (pL (w64 (x + y)) :: st))
    | .lsub => k_ll stk none (fun x y st => pnx Y G (pc + len) loc (pL (w64 (x - y)) :: st))
    | .lmul => k_ll stk none (fun x y st => pnx Y G (pc + len) loc (pL (w64 (x * y)) :: st))
    | .land => k_ll stk none (fun x y st => pnx Y G (pc + len) loc (pL (pland x y) :: st))
    | .lor => k_ll stk none (fun x y st => pnx Y G (pc + len) loc (pL (plor x y) :: st))
    | .ldiv => k_ll stk none (fun x y st => if y = 0 then none else pnx Y G (pc + len) loc (pL (pldiv x y) :: st))
    | .lrem => k_ll stk none (fun x y st => if y = 0 then none else pnx Y G (pc + len) loc (pL (plrem x y) :: st))
    | .lneg => k_l stk none (fun x st => pnx Y G (pc + len) loc (pL (w64 (-x)) :: st))
    | .lshl => k_li stk none (fun x y st => pnx Y G (pc + len) loc (pL (plshl x y) :: st))
    | .lshr => k_li stk none (fun x y st => pnx Y G (pc + len) loc (pL (plshr x y) :: st))
    | .lcmp => k_ll stk none (fun x y st => pnx Y G (pc + len) loc (pI (plcmp x y) :: st))
    | .i2l => k_i stk none (fun x st => pnx Y G (pc + len) loc (pL x :: st))
    | .l2i => k_l stk none (fun x st => pnx Y G (pc + len) loc (pI (w32 x) :: st))
    | .i2b => k_i stk none (fun x st => pnx Y G (pc + len) loc (pI (w8 x) :: st))
    | .dup => k_d stk none (fun v st => pnx Y G (pc + len) loc (v :: v :: st))
    | .dup2 => k_d2 stk none (fun v w st => pnx Y G (pc + len) loc (v :: w :: v :: w :: st))
    | .goto _ => pnx Y G a loc stk
    | .ifCond cc _ => k_i stk none (fun x st => bif pcc cc x 0 then pnx Y G a loc st else pnx Y G (pc + len) loc st)
    | .if_icmp cc _ => k_ii stk none (fun x y st => bif pcc cc x y then pnx Y G a loc st else pnx Y G (pc + len) loc st)
    | .tableswitch dflt lo hi offs => k_i stk none (fun x st => if x < lo ∨ hi < x then pnx Y G ((pc : Int) + dflt).toNat loc st else k_op (pn offs.toList (x - lo).toNat) none (fun off => pnx Y G ((pc : Int) + off).toNat loc st))
    | .lookupswitch dflt ps => k_i stk none (fun x st => pnx Y G ((pc : Int) + plks ps.toList dflt x).toNat loc st)
    | .getfield _ => k_r stk none (fun r st => bif Nat.beq (Y.2.1 r).1 b then (match c with
        | 1 => pnx Y G (pc + len) loc (pL (G r a) :: st)
        | 2 => k_op (Y.2.2 r a) none (fun q => pnx Y G (pc + len) loc (pR q :: st))
        | _ => pnx Y G (pc + len) loc (pI (G r a) :: st)) else none)
    | .putfield _ => match c with
        | 0 => k_ri stk none (fun r x st => bif Nat.beq (Y.2.1 r).1 b then pnx Y (pset G r a x) (pc + len) loc st else none)
        | 1 => k_rl stk none (fun r x st => bif Nat.beq (Y.2.1 r).1 b then pnx Y (pset G r a x) (pc + len) loc st else none)
        | 3 => k_ri stk none (fun r x st => bif Nat.beq (Y.2.1 r).1 b then (if x = 0 ∨ x = 1 then pnx Y (pset G r a x) (pc + len) loc st else none) else none)
        | _ => k_rr stk none (fun r q st => bif Nat.beq (Y.2.1 r).1 b then pnx (prf Y r a q) G (pc + len) loc st else none)
    | .iaload => k_ri stk none (fun r i st => bif Nat.beq (Y.2.1 r).1 100 then (if 0 ≤ i ∧ i < (Y.2.1 r).2 then pnx Y G (pc + len) loc (pI (G r i.toNat) :: st) else none) else none)
    | .laload => k_ri stk none (fun r i st => bif Nat.beq (Y.2.1 r).1 101 then (if 0 ≤ i ∧ i < (Y.2.1 r).2 then pnx Y G (pc + len) loc (pL (G r i.toNat) :: st) else none) else none)
    | .baload => k_ri stk none (fun r i st => bif Nat.beq (Y.2.1 r).1 102 then (if 0 ≤ i ∧ i < (Y.2.1 r).2 then pnx Y G (pc + len) loc (pI (G r i.toNat) :: st) else none) else none)
    | .aaload => k_ri stk none (fun r i st => bif Nat.beq (Y.2.1 r).1 103 then (if 0 ≤ i ∧ i < (Y.2.1 r).2 then k_op (Y.2.2 r i.toNat) none (fun q => pnx Y G (pc + len) loc (pR q :: st)) else none) else none)
    | .iastore => k_rii stk none (fun r i x st => bif Nat.beq (Y.2.1 r).1 100 then (if 0 ≤ i ∧ i < (Y.2.1 r).2 then pnx Y (pset G r i.toNat x) (pc + len) loc st else none) else none)
    | .bastore => k_rii stk none (fun r i x st => bif Nat.beq (Y.2.1 r).1 102 then (if 0 ≤ i ∧ i < (Y.2.1 r).2 then pnx Y (pset G r i.toNat (w8 x)) (pc + len) loc st else none) else none)
    | .lastore => k_ril stk none (fun r i x st => bif Nat.beq (Y.2.1 r).1 101 then (if 0 ≤ i ∧ i < (Y.2.1 r).2 then pnx Y (pset G r i.toNat x) (pc + len) loc st else none) else none)
    | .arraylength => k_r stk none (fun r st => bif Nat.ble 100 (Y.2.1 r).1 then pnx Y G (pc + len) loc (pI (Y.2.1 r).2 :: st) else none)
    | .invokestatic _ => k_op (ppop b stk []) none (fun q => bif Nat.ble (pcat q.2) 8 && (c == -1 || precv Y c q.1) then some (.inr (.inl (a, q.1, q.2))) else none)
    | .pop => k_r stk none (fun _ st => bif Nat.ble (pcat st) 8 then pnx Y G (pc + len) loc st else none)
    | .f2d => k_ii stk none (fun x y st => bif Nat.ble (pcat st) 8 then pnx Y G (pc + len) loc (pI (pmx x y) :: st) else none)
    | .f2i => k_ii stk none (fun x y st => bif Nat.ble (pcat st) 8 then pnx Y G (pc + len) loc (pI (pmn x y) :: st) else none)
    | .f2l => k_i stk none (fun x st => bif Nat.ble (pcat st) 8 then pnx Y G (pc + len) loc (pI (if 0 < x then x else w32 (-x)) :: st) else none)
    | .d2f => k_l stk none (fun x st => bif Nat.ble (pcat st) 8 then pnx Y G (pc + len) loc (pL (if 0 < x then x else w64 (-x)) :: st) else none)
    | .d2i => k_ll stk none (fun x y st => bif Nat.ble (pcat st) 8 then pnx Y G (pc + len) loc (pL (pmx x y) :: st) else none)
    | .d2l => k_cp stk none (fun a0 sp a1 dp n st => bif Nat.ble (pcat st) 8 then (bif (Nat.beq (Y.2.1 a0).1 100 && Nat.beq (Y.2.1 a1).1 100) || (Nat.beq (Y.2.1 a0).1 101 && Nat.beq (Y.2.1 a1).1 101) then (if 0 ≤ sp ∧ 0 ≤ dp ∧ 0 ≤ n ∧ sp + n ≤ (Y.2.1 a0).2 ∧ dp + n ≤ (Y.2.1 a1).2 then pnx Y (pcpy G a0 sp.toNat a1 dp.toNat n.toNat) (pc + len) loc st else none) else none) else none)
    | .daload => k_r stk none (fun r st => bif Nat.ble (pcat st) 8 then k_op (pn pstr (r - 500)) none (fun s => pnx Y G (pc + len) loc (pI s.length :: st)) else none)
    | .dastore => k_ri stk none (fun r i st => bif Nat.ble (pcat st) 8 then k_op (pn pstr (r - 500)) none (fun s => if 0 ≤ i then k_op (pn s i.toNat) none (fun ch => pnx Y G (pc + len) loc (pI ch :: st)) else none) else none)
    | .new _ => pnx (pnw Y a b) (pz G Y.1.1) (pc + len) loc (pR Y.1.1 :: stk)
    | .newarray _ => k_i stk none (fun x st => if 0 ≤ x ∧ x ≤ 100000 then pnx (pnw Y a x) (pz G Y.1.1) (pc + len) loc (pR Y.1.1 :: st) else none)
    | .multianewarray _ _ => k_ii stk none (fun x y st => if 0 ≤ x ∧ x ≤ 100000 ∧ 0 ≤ y ∧ y ≤ 100000 then pnx (pmn2 Y x.toNat y.toNat) (pz2 G Y.1.1 x.toNat) (pc + len) loc (pR Y.1.1 :: st) else none)
    | .ireturn => match stk with
      | [.inl x] => bif c == 3 then (if x = 0 ∨ x = 1 then some (.inr (.inr (some (pI x)))) else none) else some (.inr (.inr (some (pI x))))
      | _ => none
    | .lreturn => match stk with
      | [.inr (.inl x)] => some (.inr (.inr (some (pL x))))
      | _ => none
    | .return_ => match stk with
      | [] => some (.inr (.inr none))
      | _ => none
    | _ => none
/-- a method: its code, how many locals, what it answers (0 none, 1 an int, 2 a long) -/
abbrev pM : Type := pT × Nat × Nat
/-- depth of calls left, steps left, method, pc, locals, stack, layout, memory -/
def pexec (MT : Nat → Option pM) : Nat → Nat → Nat → Nat → List pV → List pV → pY → pG → Option (Option pV × pY × pG)
  | 0, _, _, _, _, _, _, _ => none
  | f + 1, d, M, pc, loc, stk, Y, G => match MT M with
    | none => none
    | some mi => match plook mi.1 pc with
      | none => none
      | some e => match pstep Y G e pc loc stk with
        | none => none
        | some (.inl (pc', loc', stk', Y', G')) => pexec MT f d M pc' loc' stk' Y' G'
        | some (.inr (.inl (m, as, st))) => match d with
          | 0 => none
          | d' + 1 => match MT m with
            | none => none
            | some mc => match pexec MT f d' m 0 (pent as mc.2.1) [] Y G with
              | none => none
              | some (r, Y', G') => pexec MT f d M (pc + 3) loc (r.toList ++ st) Y' G'
        | some (.inr (.inr r)) => some (r, Y, G)
theorem pexec_mono (MT : Nat → Option pM) : ∀ (f d M pc : Nat) (loc stk : List pV) (Y : pY) (G : pG) (r : Option pV × pY × pG), pexec MT f d M pc loc stk Y G = some r → pexec MT (f + 1) d M pc loc stk Y G = some r := by
  intro f
  induction f with
  | zero => intro d M pc loc stk Y G r h; exact absurd h (by simp [pexec])
  | succ f ih =>
    intro d M pc loc stk Y G r h
    rw [pexec] at h ⊢
    cases hM : MT M with
    | none => rw [hM] at h; exact absurd h (by simp)
    | some mi =>
      rw [hM] at h
      dsimp only at h ⊢
      cases hl : plook mi.1 pc with
      | none => rw [hl] at h; exact absurd h (by simp)
      | some e =>
        rw [hl] at h
        dsimp only at h ⊢
        rcases hs : pstep Y G e pc loc stk with _ | (⟨pc', loc', stk', Y', G'⟩ | ⟨m, as, st⟩ | r')
        · rw [hs] at h; exact absurd h (by simp)
        · rw [hs] at h
          exact ih _ _ _ _ _ _ _ _ h
        · rw [hs] at h
          dsimp only at h ⊢
          cases d with
          | zero => exact absurd h (by simp)
          | succ d' =>
            dsimp only at h ⊢
            cases hm : MT m with
            | none => rw [hm] at h; exact absurd h (by simp)
            | some mc =>
              rw [hm] at h
              dsimp only at h ⊢
              cases hc : pexec MT f d' m 0 (pent as mc.2.1) [] Y G with
              | none => rw [hc] at h; exact absurd h (by simp)
              | some q =>
                obtain ⟨r1, Y1, G1⟩ := q
                rw [hc] at h
                rw [ih _ _ _ _ _ _ _ _ hc]
                exact ih _ _ _ _ _ _ _ _ h
        · rw [hs] at h
          exact h
theorem pexec_le (MT : Nat → Option pM) {f g d M pc : Nat} {loc stk : List pV} {Y : pY} {G : pG} {r : Option pV × pY × pG} (hfg : f ≤ g) (h : pexec MT f d M pc loc stk Y G = some r) : pexec MT g d M pc loc stk Y G = some r := by
  induction hfg with
  | refl => exact h
  | step _ ih => exact pexec_mono MT _ _ _ _ _ _ _ _ _ ih
/-- more depth does no harm -/
theorem pexec_deep (MT : Nat → Option pM) : ∀ (f d M pc : Nat) (loc stk : List pV) (Y : pY) (G : pG) (r : Option pV × pY × pG), pexec MT f d M pc loc stk Y G = some r → pexec MT f (d + 1) M pc loc stk Y G = some r := by
  intro f
  induction f with
  | zero => intro d M pc loc stk Y G r h; exact absurd h (by simp [pexec])
  | succ f ih =>
    intro d M pc loc stk Y G r h
    rw [pexec] at h ⊢
    cases hM : MT M with
    | none => rw [hM] at h; exact absurd h (by simp)
    | some mi =>
      rw [hM] at h
      dsimp only at h ⊢
      cases hl : plook mi.1 pc with
      | none => rw [hl] at h; exact absurd h (by simp)
      | some e =>
        rw [hl] at h
        dsimp only at h ⊢
        rcases hs : pstep Y G e pc loc stk with _ | (⟨pc', loc', stk', Y', G'⟩ | ⟨m, as, st⟩ | r')
        · rw [hs] at h; exact absurd h (by simp)
        · rw [hs] at h
          exact ih _ _ _ _ _ _ _ _ h
        · rw [hs] at h
          dsimp only at h ⊢
          cases d with
          | zero => exact absurd h (by simp)
          | succ d' =>
            dsimp only at h ⊢
            cases hm : MT m with
            | none => rw [hm] at h; exact absurd h (by simp)
            | some mc =>
              rw [hm] at h
              dsimp only at h ⊢
              cases hc : pexec MT f d' m 0 (pent as mc.2.1) [] Y G with
              | none => rw [hc] at h; exact absurd h (by simp)
              | some q =>
                obtain ⟨r1, Y1, G1⟩ := q
                rw [hc] at h
                rw [ih _ _ _ _ _ _ _ _ hc]
                exact ih _ _ _ _ _ _ _ _ h
        · rw [hs] at h
          exact h
end
section
/-- from here the method ends, with R -/
def pEnds (MT : Nat → Option pM) (d M : Nat) (Y : pY) (R : Option pV → pG → Prop) (pc : Nat) (loc stk : List pV) (G : pG) : Prop := ∃ (f : Nat) (r : Option pV) (G' : pG), pexec MT f d M pc loc stk Y G = some (r, Y, G') ∧ R r G'
/-- the method m, called with these, answers r and leaves G' -/
def pRuns (MT : Nat → Option pM) (d m : Nat) (as : List pV) (Y : pY) (G : pG) (r : Option pV) (G' : pG) : Prop := ∃ (mc : pM) (f : Nat), MT m = some mc ∧ pexec MT f d m 0 (pent as mc.2.1) [] Y G = some (r, Y, G')
def pC0 (MT : Nat → Option pM) (d m : Nat) (as : List pV) (Y : pY) (G : pG) (Q : pG → Prop) : Prop := ∃ (d' : Nat) (G' : pG), d' < d ∧ pRuns MT d' m as Y G none G' ∧ Q G'
def pC1 (MT : Nat → Option pM) (d m : Nat) (as : List pV) (Y : pY) (G : pG) (Q : Int → pG → Prop) : Prop := ∃ (d' : Nat) (r : Int) (G' : pG), d' < d ∧ pRuns MT d' m as Y G (some (pI r)) G' ∧ Q r G'
def pC2 (MT : Nat → Option pM) (d m : Nat) (as : List pV) (Y : pY) (G : pG) (Q : Int → pG → Prop) : Prop := ∃ (d' : Nat) (r : Int) (G' : pG), d' < d ∧ pRuns MT d' m as Y G (some (pL r)) G' ∧ Q r G'
def pcP (cc : ClassFile.Cond) (x y : Int) : Prop := match cc with
  | .eq => x = y
  | .ne => ¬ x = y
  | .lt => x < y
  | .ge => y ≤ x
  | .gt => y < x
  | .le => x ≤ y
def pcN (cc : ClassFile.Cond) (x y : Int) : Prop := match cc with
  | .eq => ¬ x = y
  | .ne => x = y
  | .lt => y ≤ x
  | .ge => x < y
  | .gt => x ≤ y
  | .le => y < x
def ptw (x : Int) (pc : Nat) (go : Nat → Prop) : Int → List Int → Prop
  | _, [] => False
  | lo, o :: os => (x = lo → go ((pc : Int) + o).toNat) ∧ (¬ x = lo → ptw x pc go (lo + 1) os)
def plw (x : Int) (pc : Nat) (d : Int) (go : Nat → Prop) : List (Int × Int) → Prop
  | [] => go ((pc : Int) + d).toNat
  | (k, o) :: r => (x = k → go ((pc : Int) + o).toNat) ∧ (¬ x = k → plw x pc d go r)
/-- what must hold for a step, 'go' being what must hold behind it -/
def pw1 (MT : Nat → Option pM) (d M : Nat) (Y : pY) (R : Option pV → pG → Prop) (go : Nat → List pV → List pV → pG → Prop) (e : pE) (pc : Nat) (loc stk : List pV) (G : pG) : Prop :=
  match e with
  | (o, len, a, b, c) => match o with
    | .iconst x => go (pc + len) loc (pI x :: stk) G
    | .ldc2_w _ => go (pc + len) loc (pL c :: stk) G
    | .ldc _ => go (pc + len) loc (pR a :: stk) G
    | .iload i => k_oi (pn loc i) False (fun x => go (pc + len) loc (pI x :: stk) G)
    | .lload i => k_ol (pn loc i) False (fun x => go (pc + len) loc (pL x :: stk) G)
    | .aload i => k_or (pn loc i) False (fun x => go (pc + len) loc (pR x :: stk) G)
    | .istore i => k_i stk False (fun x st => ∀ v : Int, v = x → go (pc + len) (plst loc i (pI v)) st G)
    | .lstore i => k_l stk False (fun x st => ∀ v : Int, v = x → go (pc + len) (plst2 loc i (pL v)) st G)
    | .astore i => k_r stk False (fun x st => go (pc + len) (plst loc i (pR x)) st G)
    | .iinc i k => k_oi (pn loc i) False (fun x => ∀ v : Int, v = w32 (x + k) → go (pc + len) (plst loc i (pI v)) stk G)
    | .iadd => k_ii stk False (fun x y st => go (pc + len) loc (pI (w32 (x + y)) :: st) G)
    | .isub => k_ii stk False (fun x y st => go (pc + len) loc (pI (w32 (x - y)) :: st) G)
    | .imul => k_ii stk False (fun x y st => go (pc + len) loc (pI (w32 (x * y)) :: st) G)
    | .iand => k_ii stk False (fun x y st => go (pc + len) loc (pI (pand x y) :: st) G)
    | .ior => k_ii stk False (fun x y st => go (pc + len) loc (pI (por x y) :: st) G)
    | .ixor => k_ii stk False (fun x y st => go (pc + len) loc (pI (pxor x y) :: st) G)
    | .ishl => k_ii stk False (fun x y st => go (pc + len) loc (pI (pshl x y) :: st) G)
    | .ishr => k_ii stk False (fun x y st => go (pc + len) loc (pI (pshr x y) :: st) G)
    | .iushr => k_ii stk False (fun x y st => go (pc + len) loc (pI (push' x y) :: st) G)
    | .idiv => k_ii stk False (fun x y st => ¬ y = 0 ∧ go (pc + len) loc (pI (pdiv x y) :: st) G)
    | .irem => k_ii stk False (fun x y st => ¬ y = 0 ∧ go (pc + len) loc (pI (prem x y) :: st) G)
    | .ineg => k_i stk False (fun x st => go (pc + len) loc (pI (w32 (-x)) :: st) G)
    | .ladd => k_ll stk False (fun x y st => go (pc + len) loc (pL (w64 (x + y)) :: st) G)
    | .lsub => k_ll stk False (fun x y st => go (pc + len) loc (pL (w64 (x - y)) :: st) G)
    | .lmul => k_ll stk False (fun x y st => go (pc + len) loc (pL (w64 (x * y)) :: st) G)
    | .land => k_ll stk False (fun x y st => go (pc + len) loc (pL (pland x y) :: st) G)
    | .lor => k_ll stk False (fun x y st => go (pc + len) loc (pL (plor x y) :: st) G)
    | .ldiv => k_ll stk False (fun x y st => ¬ y = 0 ∧ go (pc + len) loc (pL (pldiv x y) :: st) G)
    | .lrem => k_ll stk False (fun x y st => ¬ y = 0 ∧ go (pc + len) loc (pL (plrem x y) :: st) G)
    | .lneg => k_l stk False (fun x st => go (pc + len) loc (pL (w64 (-x)) :: st) G)
    | .lshl => k_li stk False (fun x y st => go (pc + len) loc (pL (plshl x y) :: st) G)
    | .lshr => k_li stk False (fun x y st => go (pc + len) loc (pL (plshr x y) :: st) G)
    | .lcmp => k_ll stk False (fun x y st => go (pc + len) loc (pI (plcmp x y) :: st) G)
    | .i2l => k_i stk False (fun x st => go (pc + len) loc (pL x :: st) G)
    | .l2i => k_l stk False (fun x st => go (pc + len) loc (pI (w32 x) :: st) G)
    | .i2b => k_i stk False (fun x st => go (pc + len) loc (pI (w8 x) :: st) G)
    | .dup => k_d stk False (fun v st => go (pc + len) loc (v :: v :: st) G)
    | .dup2 => k_d2 stk False (fun v w st => go (pc + len) loc (v :: w :: v :: w :: st) G)
    | .goto _ => go a loc stk G
    | .ifCond cc _ => k_i stk False (fun x st => (pcP cc x 0 → go a loc st G) ∧ (pcN cc x 0 → go (pc + len) loc st G))
    | .if_icmp cc _ => k_ii stk False (fun x y st => (pcP cc x y → go a loc st G) ∧ (pcN cc x y → go (pc + len) loc st G))
    | .tableswitch dflt lo hi offs => k_i stk False (fun x st => (x < lo ∨ hi < x → go ((pc : Int) + dflt).toNat loc st G) ∧ (¬ (x < lo ∨ hi < x) → ptw x pc (fun q => go q loc st G) lo offs.toList))
    | .lookupswitch dflt ps => k_i stk False (fun x st => plw x pc dflt (fun q => go q loc st G) ps.toList)
    | .getfield _ => k_r stk False (fun r st => bif Nat.beq (Y.2.1 r).1 b then (match c with
        | 1 => go (pc + len) loc (pL (G r a) :: st) G
        | 2 => k_op (Y.2.2 r a) False (fun q => go (pc + len) loc (pR q :: st) G)
        | _ => go (pc + len) loc (pI (G r a) :: st) G) else False)
    | .putfield _ => match c with
        | 0 => k_ri stk False (fun r x st => bif Nat.beq (Y.2.1 r).1 b then go (pc + len) loc st (pset G r a x) else False)
        | 1 => k_rl stk False (fun r x st => bif Nat.beq (Y.2.1 r).1 b then go (pc + len) loc st (pset G r a x) else False)
        | 3 => k_ri stk False (fun r x st => bif Nat.beq (Y.2.1 r).1 b then (x = 0 ∨ x = 1) ∧ go (pc + len) loc st (pset G r a x) else False)
        | _ => False
    | .iaload => k_ri stk False (fun r i st => bif Nat.beq (Y.2.1 r).1 100 then 0 ≤ i ∧ i < (Y.2.1 r).2 ∧ go (pc + len) loc (pI (G r i.toNat) :: st) G else False)
    | .laload => k_ri stk False (fun r i st => bif Nat.beq (Y.2.1 r).1 101 then 0 ≤ i ∧ i < (Y.2.1 r).2 ∧ go (pc + len) loc (pL (G r i.toNat) :: st) G else False)
    | .baload => k_ri stk False (fun r i st => bif Nat.beq (Y.2.1 r).1 102 then 0 ≤ i ∧ i < (Y.2.1 r).2 ∧ go (pc + len) loc (pI (G r i.toNat) :: st) G else False)
    | .aaload => k_ri stk False (fun r i st => bif Nat.beq (Y.2.1 r).1 103 then 0 ≤ i ∧ i < (Y.2.1 r).2 ∧ ∃ q, Y.2.2 r i.toNat = some q ∧ go (pc + len) loc (pR q :: st) G else False)
    | .iastore => k_rii stk False (fun r i x st => bif Nat.beq (Y.2.1 r).1 100 then 0 ≤ i ∧ i < (Y.2.1 r).2 ∧ go (pc + len) loc st (pset G r i.toNat x) else False)
    | .bastore => k_rii stk False (fun r i x st => bif Nat.beq (Y.2.1 r).1 102 then 0 ≤ i ∧ i < (Y.2.1 r).2 ∧ go (pc + len) loc st (pset G r i.toNat (w8 x)) else False)
    | .lastore => k_ril stk False (fun r i x st => bif Nat.beq (Y.2.1 r).1 101 then 0 ≤ i ∧ i < (Y.2.1 r).2 ∧ go (pc + len) loc st (pset G r i.toNat x) else False)
    | .arraylength => k_r stk False (fun r st => bif Nat.ble 100 (Y.2.1 r).1 then go (pc + len) loc (pI (Y.2.1 r).2 :: st) G else False)
    | .invokestatic rc => k_op (ppop b stk []) False (fun q => bif Nat.ble (pcat q.2) 8 && (c == -1 || precv Y c q.1) then (match rc with
        | 0 => pC0 MT d a q.1 Y G (fun G' => go (pc + 3) loc q.2 G')
        | 1 => pC1 MT d a q.1 Y G (fun r G' => go (pc + 3) loc (pI r :: q.2) G')
        | _ => pC2 MT d a q.1 Y G (fun r G' => go (pc + 3) loc (pL r :: q.2) G')) else False)
    | .f2d => k_ii stk False (fun x y st => bif Nat.ble (pcat st) 8 then go (pc + len) loc (pI (pmx x y) :: st) G else False)
    | .f2i => k_ii stk False (fun x y st => bif Nat.ble (pcat st) 8 then go (pc + len) loc (pI (pmn x y) :: st) G else False)
    | .f2l => k_i stk False (fun x st => bif Nat.ble (pcat st) 8 then go (pc + len) loc (pI (if 0 < x then x else w32 (-x)) :: st) G else False)
    | .d2f => k_l stk False (fun x st => bif Nat.ble (pcat st) 8 then go (pc + len) loc (pL (if 0 < x then x else w64 (-x)) :: st) G else False)
    | .d2i => k_ll stk False (fun x y st => bif Nat.ble (pcat st) 8 then go (pc + len) loc (pL (pmx x y) :: st) G else False)
    | .d2l => k_cp stk False (fun a0 sp a1 dp n st => bif Nat.ble (pcat st) 8 then (bif (Nat.beq (Y.2.1 a0).1 100 && Nat.beq (Y.2.1 a1).1 100) || (Nat.beq (Y.2.1 a0).1 101 && Nat.beq (Y.2.1 a1).1 101) then (0 ≤ sp ∧ 0 ≤ dp ∧ 0 ≤ n ∧ sp + n ≤ (Y.2.1 a0).2 ∧ dp + n ≤ (Y.2.1 a1).2) ∧ go (pc + len) loc st (pcpy G a0 sp.toNat a1 dp.toNat n.toNat) else False) else False)
    | .daload => k_r stk False (fun r st => bif Nat.ble (pcat st) 8 then k_op (pn pstr (r - 500)) False (fun s => go (pc + len) loc (pI s.length :: st) G) else False)
    | .dastore => k_ri stk False (fun r i st => bif Nat.ble (pcat st) 8 then k_op (pn pstr (r - 500)) False (fun s => 0 ≤ i ∧ ∃ ch, pn s i.toNat = some ch ∧ go (pc + len) loc (pI ch :: st) G) else False)
    | .ireturn => match stk with
      | [.inl x] => bif c == 3 then (x = 0 ∨ x = 1) ∧ R (some (pI x)) G else R (some (pI x)) G
      | _ => False
    | .lreturn => match stk with
      | [.inr (.inl x)] => R (some (pL x)) G
      | _ => False
    | .return_ => match stk with
      | [] => R none G
      | _ => False
    | _ => False
/-- locals that are dead are forgotten -/
def pmk : List Bool → List pV → List pV
  | true :: m, v :: l => v :: pmk m l
  | false :: m, _ :: l => pU :: pmk m l
  | [], l => l
  | _ :: _, [] => []
def pcut : List (Nat × List Bool) → Nat → Option (List Bool)
  | [], _ => none
  | (a, m) :: l, n => bif Nat.beq a n then some m else pcut l n
/-- n steps of it, but not through the places cs -/
def pwp (MT : Nat → Option pM) (d M : Nat) (t : pT) (cs : List (Nat × List Bool)) (Y : pY) (R : Option pV → pG → Prop) : Nat → Nat → List pV → List pV → pG → Prop
  | 0, pc, loc, stk, G => pEnds MT d M Y R pc loc stk G
  | n + 1, pc, loc, stk, G => k_op (plook t pc) False (fun e => pw1 MT d M Y R (fun pc' loc' stk' G' => k_op (pcut cs pc') (pwp MT d M t cs Y R n pc' loc' stk' G') (fun m => pEnds MT d M Y R pc' (pmk m loc') stk' G')) e pc loc stk G)
theorem pRuns.deep {MT : Nat → Option pM} {d d' m : Nat} {as : List pV} {Y : pY} {G G' : pG} {r : Option pV} (h : pRuns MT d m as Y G r G') (hd : d ≤ d') : pRuns MT d' m as Y G r G' := by
  induction hd with
  | refl => exact h
  | step _ ih =>
    obtain ⟨mc, f, h1, h2⟩ := ih
    exact ⟨mc, f, h1, pexec_deep MT _ _ _ _ _ _ _ _ _ h2⟩
/-- a step on -/
theorem pEnds.nx {MT : Nat → Option pM} {d M : Nat} {Y : pY} {R : Option pV → pG → Prop} {mi : pM} (hM : MT M = some mi) {e : pE} {pc pc' : Nat} {loc loc' stk stk' : List pV} {G G' : pG} (he : plook mi.1 pc = some e) (hs : pstep Y G e pc loc stk = some (.inl (pc', loc', stk', Y, G'))) (h : pEnds MT d M Y R pc' loc' stk' G') : pEnds MT d M Y R pc loc stk G := by
  obtain ⟨f, r, G2, h1, h2⟩ := h
  refine ⟨f + 1, r, G2, ?_, h2⟩
  rw [pexec, hM]
  dsimp only
  rw [he]
  dsimp only
  rw [hs]
  exact h1
theorem pEnds.ret {MT : Nat → Option pM} {d M : Nat} {Y : pY} {R : Option pV → pG → Prop} {mi : pM} (hM : MT M = some mi) {e : pE} {pc : Nat} {loc stk : List pV} {G : pG} {r : Option pV} (he : plook mi.1 pc = some e) (hs : pstep Y G e pc loc stk = some (.inr (.inr r))) (h : R r G) : pEnds MT d M Y R pc loc stk G := by
  refine ⟨1, r, G, ?_, h⟩
  rw [pexec, hM]
  dsimp only
  rw [he]
  dsimp only
  rw [hs]
theorem pEnds.call {MT : Nat → Option pM} {d M : Nat} {Y : pY} {R : Option pV → pG → Prop} {mi : pM} (hM : MT M = some mi) {e : pE} {pc m : Nat} {loc stk as st : List pV} {G G' : pG} {r : Option pV} (he : plook mi.1 pc = some e) (hs : pstep Y G e pc loc stk = some (.inr (.inl (m, as, st)))) {d' : Nat} (hd : d' < d) (hr : pRuns MT d' m as Y G r G') (h : pEnds MT d M Y R (pc + 3) loc (r.toList ++ st) G') : pEnds MT d M Y R pc loc stk G := by
  obtain ⟨f, r2, G2, h1, h2⟩ := h
  obtain ⟨d1, rfl⟩ : ∃ d1, d = d1 + 1 := ⟨d - 1, by omega⟩
  obtain ⟨mc, f3, h3, h4⟩ := hr.deep (show d' ≤ d1 by omega)
  refine ⟨f + f3 + 1, r2, G2, ?_, h2⟩
  rw [pexec, hM]
  dsimp only
  rw [he]
  dsimp only
  rw [hs]
  dsimp only
  rw [h3]
  dsimp only
  rw [pexec_le MT (show f3 ≤ f + f3 by omega) h4]
  exact pexec_le MT (show f ≤ f + f3 by omega) h1
theorem k_i_f {stk : List pV} {k : Int → List pV → Prop} (h : k_i stk False k) : ∃ x st, stk = .inl x :: st ∧ k x st := by
  unfold k_i at h; split at h
  · exact ⟨_, _, rfl, h⟩
  · exact h.elim
theorem k_l_f {stk : List pV} {k : Int → List pV → Prop} (h : k_l stk False k) : ∃ x st, stk = .inr (.inl x) :: st ∧ k x st := by
  unfold k_l at h; split at h
  · exact ⟨_, _, rfl, h⟩
  · exact h.elim
theorem k_r_f {stk : List pV} {k : Nat → List pV → Prop} (h : k_r stk False k) : ∃ x st, stk = .inr (.inr (some x)) :: st ∧ k x st := by
  unfold k_r at h; split at h
  · exact ⟨_, _, rfl, h⟩
  · exact h.elim
theorem k_ii_f {stk : List pV} {k : Int → Int → List pV → Prop} (h : k_ii stk False k) : ∃ x y st, stk = .inl y :: .inl x :: st ∧ k x y st := by
  unfold k_ii at h; split at h
  · exact ⟨_, _, _, rfl, h⟩
  · exact h.elim
theorem k_ll_f {stk : List pV} {k : Int → Int → List pV → Prop} (h : k_ll stk False k) : ∃ x y st, stk = .inr (.inl y) :: .inr (.inl x) :: st ∧ k x y st := by
  unfold k_ll at h; split at h
  · exact ⟨_, _, _, rfl, h⟩
  · exact h.elim
theorem k_li_f {stk : List pV} {k : Int → Int → List pV → Prop} (h : k_li stk False k) : ∃ x y st, stk = .inl y :: .inr (.inl x) :: st ∧ k x y st := by
  unfold k_li at h; split at h
  · exact ⟨_, _, _, rfl, h⟩
  · exact h.elim
theorem k_ri_f {stk : List pV} {k : Nat → Int → List pV → Prop} (h : k_ri stk False k) : ∃ x y st, stk = .inl y :: .inr (.inr (some x)) :: st ∧ k x y st := by
  unfold k_ri at h; split at h
  · exact ⟨_, _, _, rfl, h⟩
  · exact h.elim
theorem k_rl_f {stk : List pV} {k : Nat → Int → List pV → Prop} (h : k_rl stk False k) : ∃ x y st, stk = .inr (.inl y) :: .inr (.inr (some x)) :: st ∧ k x y st := by
  unfold k_rl at h; split at h
  · exact ⟨_, _, _, rfl, h⟩
  · exact h.elim
theorem k_rii_f {stk : List pV} {k : Nat → Int → Int → List pV → Prop} (h : k_rii stk False k) : ∃ x y v st, stk = .inl v :: .inl y :: .inr (.inr (some x)) :: st ∧ k x y v st := by
  unfold k_rii at h; split at h
  · exact ⟨_, _, _, _, rfl, h⟩
  · exact h.elim
theorem k_ril_f {stk : List pV} {k : Nat → Int → Int → List pV → Prop} (h : k_ril stk False k) : ∃ x y v st, stk = .inr (.inl v) :: .inl y :: .inr (.inr (some x)) :: st ∧ k x y v st := by
  unfold k_ril at h; split at h
  · exact ⟨_, _, _, _, rfl, h⟩
  · exact h.elim
theorem k_cp_f {stk : List pV} {k : Nat → Int → Nat → Int → Int → List pV → Prop} (h : k_cp stk False k) : ∃ a0 sp a dp n st, stk = .inl n :: .inl dp :: .inr (.inr (some a)) :: .inl sp :: .inr (.inr (some a0)) :: st ∧ k a0 sp a dp n st := by
  unfold k_cp at h; split at h
  · exact ⟨_, _, _, _, _, _, rfl, h⟩
  · exact h.elim
theorem k_op_f {β : Type} {o : Option β} {k : β → Prop} (h : k_op o False k) : ∃ x, o = some x ∧ k x := by
  unfold k_op at h; split at h
  · exact ⟨_, rfl, h⟩
  · exact h.elim
theorem k_oi_f {o : Option pV} {k : Int → Prop} (h : k_oi o False k) : ∃ x, o = some (.inl x) ∧ k x := by
  unfold k_oi at h; split at h
  · exact ⟨_, rfl, h⟩
  · exact h.elim
theorem k_ol_f {o : Option pV} {k : Int → Prop} (h : k_ol o False k) : ∃ x, o = some (.inr (.inl x)) ∧ k x := by
  unfold k_ol at h; split at h
  · exact ⟨_, rfl, h⟩
  · exact h.elim
theorem k_or_f {o : Option pV} {k : Nat → Prop} (h : k_or o False k) : ∃ x, o = some (.inr (.inr (some x))) ∧ k x := by
  unfold k_or at h; split at h
  · exact ⟨_, rfl, h⟩
  · exact h.elim
theorem bif_f {b : Bool} {P : Prop} (h : bif b then P else False) : b = true ∧ P := by
  cases b
  · exact h.elim
  · exact ⟨rfl, h⟩
theorem pcP_t {cc : ClassFile.Cond} {x y : Int} : pcc cc x y = true ↔ pcP cc x y := by
  cases cc <;> simp [pcc, pcP]
theorem pcN_f {cc : ClassFile.Cond} {x y : Int} : pcc cc x y = false ↔ pcN cc x y := by
  cases cc <;> simp [pcc, pcN]
end
section
theorem ptw_at {x : Int} {pc : Nat} {go : Nat → Prop} : ∀ {os : List Int} {lo : Int}, ptw x pc go lo os → lo ≤ x → ∃ off, pn os (x - lo).toNat = some off ∧ go ((pc : Int) + off).toNat := by
  intro os
  induction os with
  | nil => intro lo h _; exact h.elim
  | cons o os ih =>
    intro lo h hx
    by_cases e : x = lo
    · subst e
      refine ⟨o, ?_, h.1 rfl⟩
      rw [Int.sub_self]
      rfl
    · obtain ⟨off, h1, h2⟩ := ih (h.2 e) (by omega)
      refine ⟨off, ?_, h2⟩
      rw [show (x - lo).toNat = (x - (lo + 1)).toNat + 1 by omega]
      exact h1
theorem plw_at {x : Int} {pc : Nat} {d : Int} {go : Nat → Prop} : ∀ {ps : List (Int × Int)}, plw x pc d go ps → go ((pc : Int) + plks ps d x).toNat := by
  intro ps
  induction ps with
  | nil => intro h; exact h
  | cons p ps ih =>
    intro h
    obtain ⟨k, o⟩ := p
    unfold plks
    by_cases e : x = k
    · rw [if_pos e]; exact h.1 e
    · rw [if_neg e]; exact ih (h.2 e)
set_option maxHeartbeats 4000000 in
set_option maxRecDepth 20000 in
theorem pw1_sound {MT : Nat → Option pM} {d M : Nat} {Y : pY} {R : Option pV → pG → Prop} {go : Nat → List pV → List pV → pG → Prop} {mi : pM} (hM : MT M = some mi) (hgo : ∀ pc loc stk G, go pc loc stk G → pEnds MT d M Y R pc loc stk G) {e : pE} {pc : Nat} {loc stk : List pV} {G : pG} (he : plook mi.1 pc = some e) (h : pw1 MT d M Y R go e pc loc stk G) : pEnds MT d M Y R pc loc stk G := by
  obtain ⟨o, len, a, b, c⟩ := e
  cases o
  case iconst x => exact pEnds.nx hM he rfl (hgo _ _ _ _ h)
  case ldc2_w x => exact pEnds.nx hM he rfl (hgo _ _ _ _ h)
  case ldc x => exact pEnds.nx hM he rfl (hgo _ _ _ _ h)
  case goto x => exact pEnds.nx hM he rfl (hgo _ _ _ _ h)
  case iload i =>
    obtain ⟨x, hx, h⟩ := k_oi_f h
    exact pEnds.nx hM he (by simp only [pstep, hx, k_oi, pnx]) (hgo _ _ _ _ h)
  case lload i =>
    obtain ⟨x, hx, h⟩ := k_ol_f h
    exact pEnds.nx hM he (by simp only [pstep, hx, k_ol, pnx]) (hgo _ _ _ _ h)
  case aload i =>
    obtain ⟨x, hx, h⟩ := k_or_f h
    exact pEnds.nx hM he (by simp only [pstep, hx, k_or, pnx]) (hgo _ _ _ _ h)
  case istore i =>
    obtain ⟨x, st, rfl, h⟩ := k_i_f h
    exact pEnds.nx hM he rfl (hgo _ _ _ _ (h x rfl))
  case lstore i =>
    obtain ⟨x, st, rfl, h⟩ := k_l_f h
    exact pEnds.nx hM he rfl (hgo _ _ _ _ (h x rfl))
  case astore i =>
    obtain ⟨x, st, rfl, h⟩ := k_r_f h
    exact pEnds.nx hM he rfl (hgo _ _ _ _ h)
  case iinc i k =>
    obtain ⟨x, hx, h⟩ := k_oi_f h
    exact pEnds.nx hM he (by simp only [pstep, hx, k_oi, pnx]) (hgo _ _ _ _ (h _ rfl))
  case iadd =>
    obtain ⟨x, y, st, rfl, h⟩ := k_ii_f h
    exact pEnds.nx hM he rfl (hgo _ _ _ _ h)
  case isub =>
    obtain ⟨x, y, st, rfl, h⟩ := k_ii_f h
    exact pEnds.nx hM he rfl (hgo _ _ _ _ h)
  case imul =>
    obtain ⟨x, y, st, rfl, h⟩ := k_ii_f h
    exact pEnds.nx hM he rfl (hgo _ _ _ _ h)
  case iand =>
    obtain ⟨x, y, st, rfl, h⟩ := k_ii_f h
    exact pEnds.nx hM he rfl (hgo _ _ _ _ h)
  case ior =>
    obtain ⟨x, y, st, rfl, h⟩ := k_ii_f h
    exact pEnds.nx hM he rfl (hgo _ _ _ _ h)
  case ixor =>
    obtain ⟨x, y, st, rfl, h⟩ := k_ii_f h
    exact pEnds.nx hM he rfl (hgo _ _ _ _ h)
  case ishl =>
    obtain ⟨x, y, st, rfl, h⟩ := k_ii_f h
    exact pEnds.nx hM he rfl (hgo _ _ _ _ h)
  case ishr =>
    obtain ⟨x, y, st, rfl, h⟩ := k_ii_f h
    exact pEnds.nx hM he rfl (hgo _ _ _ _ h)
  case iushr =>
    obtain ⟨x, y, st, rfl, h⟩ := k_ii_f h
    exact pEnds.nx hM he rfl (hgo _ _ _ _ h)
  case ladd =>
    obtain ⟨x, y, st, rfl, h⟩ := k_ll_f h
    exact pEnds.nx hM he rfl (hgo _ _ _ _ h)
  case lsub =>
    obtain ⟨x, y, st, rfl, h⟩ := k_ll_f h
    exact pEnds.nx hM he rfl (hgo _ _ _ _ h)
  case lmul =>
    obtain ⟨x, y, st, rfl, h⟩ := k_ll_f h
    exact pEnds.nx hM he rfl (hgo _ _ _ _ h)
  case land =>
    obtain ⟨x, y, st, rfl, h⟩ := k_ll_f h
    exact pEnds.nx hM he rfl (hgo _ _ _ _ h)
  case lor =>
    obtain ⟨x, y, st, rfl, h⟩ := k_ll_f h
    exact pEnds.nx hM he rfl (hgo _ _ _ _ h)
  case lcmp =>
    obtain ⟨x, y, st, rfl, h⟩ := k_ll_f h
    exact pEnds.nx hM he rfl (hgo _ _ _ _ h)
  case lshl =>
    obtain ⟨x, y, st, rfl, h⟩ := k_li_f h
    exact pEnds.nx hM he rfl (hgo _ _ _ _ h)
  case lshr =>
    obtain ⟨x, y, st, rfl, h⟩ := k_li_f h
    exact pEnds.nx hM he rfl (hgo _ _ _ _ h)
  case idiv =>
    obtain ⟨x, y, st, rfl, h1, h⟩ := k_ii_f h
    exact pEnds.nx hM he (if_neg h1) (hgo _ _ _ _ h)
  case irem =>
    obtain ⟨x, y, st, rfl, h1, h⟩ := k_ii_f h
    exact pEnds.nx hM he (if_neg h1) (hgo _ _ _ _ h)
  case ldiv =>
    obtain ⟨x, y, st, rfl, h1, h⟩ := k_ll_f h
    exact pEnds.nx hM he (if_neg h1) (hgo _ _ _ _ h)
  case lrem =>
    obtain ⟨x, y, st, rfl, h1, h⟩ := k_ll_f h
    exact pEnds.nx hM he (if_neg h1) (hgo _ _ _ _ h)
  case ineg =>
    obtain ⟨x, st, rfl, h⟩ := k_i_f h
    exact pEnds.nx hM he rfl (hgo _ _ _ _ h)
  case i2l =>
    obtain ⟨x, st, rfl, h⟩ := k_i_f h
    exact pEnds.nx hM he rfl (hgo _ _ _ _ h)
  case i2b =>
    obtain ⟨x, st, rfl, h⟩ := k_i_f h
    exact pEnds.nx hM he rfl (hgo _ _ _ _ h)
  case lneg =>
    obtain ⟨x, st, rfl, h⟩ := k_l_f h
    exact pEnds.nx hM he rfl (hgo _ _ _ _ h)
  case l2i =>
    obtain ⟨x, st, rfl, h⟩ := k_l_f h
    exact pEnds.nx hM he rfl (hgo _ _ _ _ h)
  case dup =>
    rcases stk with _ | ⟨x | x | x, st⟩
    · exact h.elim
    · exact pEnds.nx hM he rfl (hgo _ _ _ _ h)
    · exact h.elim
    · exact pEnds.nx hM he rfl (hgo _ _ _ _ h)
  case dup2 =>
    rcases stk with _ | ⟨x | x | x, _ | ⟨y | y | y, st⟩⟩ <;> first | exact False.elim h | exact pEnds.nx hM he rfl (hgo _ _ _ _ h)
  case ifCond cc off =>
    obtain ⟨x, st, rfl, h1, h2⟩ := k_i_f h
    cases hc : pcc cc x 0 with
    | true => exact pEnds.nx hM he (by simp only [pstep, k_i, hc, cond_true, pnx]) (hgo _ _ _ _ (h1 (pcP_t.mp hc)))
    | false => exact pEnds.nx hM he (by simp only [pstep, k_i, hc, cond_false, pnx]) (hgo _ _ _ _ (h2 (pcN_f.mp hc)))
  case if_icmp cc off =>
    obtain ⟨x, y, st, rfl, h1, h2⟩ := k_ii_f h
    cases hc : pcc cc x y with
    | true => exact pEnds.nx hM he (by simp only [pstep, k_ii, hc, cond_true, pnx]) (hgo _ _ _ _ (h1 (pcP_t.mp hc)))
    | false => exact pEnds.nx hM he (by simp only [pstep, k_ii, hc, cond_false, pnx]) (hgo _ _ _ _ (h2 (pcN_f.mp hc)))
  case tableswitch dflt lo hi offs =>
    obtain ⟨x, st, rfl, h1, h2⟩ := k_i_f h
    by_cases hx : x < lo ∨ hi < x
    · exact pEnds.nx hM he (if_pos hx) (hgo _ _ _ _ (h1 hx))
    · obtain ⟨off, ho, hq⟩ := ptw_at (h2 hx) (by omega)
      exact pEnds.nx hM he (by simp only [pstep, k_i, if_neg hx, ho, k_op, pnx]) (hgo _ _ _ _ hq)
  case lookupswitch dflt ps =>
    obtain ⟨x, st, rfl, h⟩ := k_i_f h
    exact pEnds.nx hM he rfl (hgo _ _ _ _ (plw_at h))
  case getfield i =>
    obtain ⟨r, st, rfl, h⟩ := k_r_f h
    obtain ⟨hb, h⟩ := bif_f h
    split at h
    · exact pEnds.nx hM he (by simp only [pstep, k_r, hb, cond_true, pnx]) (hgo _ _ _ _ h)
    · obtain ⟨q, hq, h⟩ := k_op_f h
      exact pEnds.nx hM he (by simp only [pstep, k_r, hb, cond_true, hq, k_op, pnx]) (hgo _ _ _ _ h)
    · rename_i n1 n2
      refine pEnds.nx hM he ?_ (hgo _ _ _ _ h)
      simp only [pstep, k_r, hb, cond_true]
      rfl
  case putfield i =>
    unfold pw1 at h
    dsimp only at h
    split at h
    · obtain ⟨r, x, st, rfl, h⟩ := k_ri_f h
      obtain ⟨hb, h⟩ := bif_f h
      exact pEnds.nx hM he (by simp only [pstep, k_ri, hb, cond_true, pnx]) (hgo _ _ _ _ h)
    · obtain ⟨r, x, st, rfl, h⟩ := k_rl_f h
      obtain ⟨hb, h⟩ := bif_f h
      exact pEnds.nx hM he (by simp only [pstep, k_rl, hb, cond_true, pnx]) (hgo _ _ _ _ h)
    · obtain ⟨r, x, st, rfl, h⟩ := k_ri_f h
      obtain ⟨hb, hx, h⟩ := bif_f h
      exact pEnds.nx hM he (by simp only [pstep, k_ri, hb, cond_true, if_pos hx, pnx]) (hgo _ _ _ _ h)
    · exact h.elim
  case iaload =>
    obtain ⟨r, i, st, rfl, h⟩ := k_ri_f h
    obtain ⟨hb, h1, h2, h⟩ := bif_f h
    exact pEnds.nx hM he (by simp only [pstep, k_ri, hb, cond_true, if_pos (And.intro h1 h2), pnx]) (hgo _ _ _ _ h)
  case laload =>
    obtain ⟨r, i, st, rfl, h⟩ := k_ri_f h
    obtain ⟨hb, h1, h2, h⟩ := bif_f h
    exact pEnds.nx hM he (by simp only [pstep, k_ri, hb, cond_true, if_pos (And.intro h1 h2), pnx]) (hgo _ _ _ _ h)
  case baload =>
    obtain ⟨r, i, st, rfl, h⟩ := k_ri_f h
    obtain ⟨hb, h1, h2, h⟩ := bif_f h
    exact pEnds.nx hM he (by simp only [pstep, k_ri, hb, cond_true, if_pos (And.intro h1 h2), pnx]) (hgo _ _ _ _ h)
  case aaload =>
    obtain ⟨r, i, st, rfl, h⟩ := k_ri_f h
    obtain ⟨hb, h1, h2, q, hq, h⟩ := bif_f h
    exact pEnds.nx hM he (by simp only [pstep, k_ri, hb, cond_true, if_pos (And.intro h1 h2), hq, k_op, pnx]) (hgo _ _ _ _ h)
  case iastore =>
    obtain ⟨r, i, x, st, rfl, h⟩ := k_rii_f h
    obtain ⟨hb, h1, h2, h⟩ := bif_f h
    exact pEnds.nx hM he (by simp only [pstep, k_rii, hb, cond_true, if_pos (And.intro h1 h2), pnx]) (hgo _ _ _ _ h)
  case bastore =>
    obtain ⟨r, i, x, st, rfl, h⟩ := k_rii_f h
    obtain ⟨hb, h1, h2, h⟩ := bif_f h
    exact pEnds.nx hM he (by simp only [pstep, k_rii, hb, cond_true, if_pos (And.intro h1 h2), pnx]) (hgo _ _ _ _ h)
  case lastore =>
    obtain ⟨r, i, x, st, rfl, h⟩ := k_ril_f h
    obtain ⟨hb, h1, h2, h⟩ := bif_f h
    exact pEnds.nx hM he (by simp only [pstep, k_ril, hb, cond_true, if_pos (And.intro h1 h2), pnx]) (hgo _ _ _ _ h)
  case arraylength =>
    obtain ⟨r, st, rfl, h⟩ := k_r_f h
    obtain ⟨hb, h⟩ := bif_f h
    exact pEnds.nx hM he (by simp only [pstep, k_r, hb, cond_true, pnx]) (hgo _ _ _ _ h)
  case invokestatic rc =>
    obtain ⟨⟨as, st⟩, hq, h⟩ := k_op_f h
    obtain ⟨hb, h⟩ := bif_f h
    have hs : pstep Y G (Instr.invokestatic rc, len, a, b, c) pc loc stk = some (.inr (.inl (a, as, st))) := by simp only [pstep, hq, k_op, hb, cond_true]
    split at h
    · obtain ⟨d', G', hd, hr, h⟩ := h
      exact pEnds.call hM he hs hd hr (hgo _ _ _ _ h)
    · obtain ⟨d', r, G', hd, hr, h⟩ := h
      exact pEnds.call hM he hs hd hr (hgo _ _ _ _ h)
    · obtain ⟨d', r, G', hd, hr, h⟩ := h
      exact pEnds.call hM he hs hd hr (hgo _ _ _ _ h)
  case f2d =>
    obtain ⟨x, y, st, rfl, h⟩ := k_ii_f h
    obtain ⟨hb, h⟩ := bif_f h
    exact pEnds.nx hM he (by simp only [pstep, k_ii, hb, cond_true, pnx]) (hgo _ _ _ _ h)
  case f2i =>
    obtain ⟨x, y, st, rfl, h⟩ := k_ii_f h
    obtain ⟨hb, h⟩ := bif_f h
    exact pEnds.nx hM he (by simp only [pstep, k_ii, hb, cond_true, pnx]) (hgo _ _ _ _ h)
  case d2i =>
    obtain ⟨x, y, st, rfl, h⟩ := k_ll_f h
    obtain ⟨hb, h⟩ := bif_f h
    exact pEnds.nx hM he (by simp only [pstep, k_ll, hb, cond_true, pnx]) (hgo _ _ _ _ h)
  case f2l =>
    obtain ⟨x, st, rfl, h⟩ := k_i_f h
    obtain ⟨hb, h⟩ := bif_f h
    exact pEnds.nx hM he (by simp only [pstep, k_i, hb, cond_true, pnx]) (hgo _ _ _ _ h)
  case d2f =>
    obtain ⟨x, st, rfl, h⟩ := k_l_f h
    obtain ⟨hb, h⟩ := bif_f h
    exact pEnds.nx hM he (by simp only [pstep, k_l, hb, cond_true, pnx]) (hgo _ _ _ _ h)
  case d2l =>
    obtain ⟨a0, sp, a1, dp, n, st, rfl, h⟩ := k_cp_f h
    obtain ⟨hb, h⟩ := bif_f h
    obtain ⟨hb2, hx, h⟩ := bif_f h
    exact pEnds.nx hM he (by simp only [pstep, k_cp, hb, hb2, cond_true, if_pos hx, pnx]) (hgo _ _ _ _ h)
  case daload =>
    obtain ⟨r, st, rfl, h⟩ := k_r_f h
    obtain ⟨hb, h⟩ := bif_f h
    obtain ⟨s, hq, h⟩ := k_op_f (o := pn pstr (r - 500)) h
    exact pEnds.nx hM he (by simp only [pstep, k_r, hb, cond_true, hq, k_op, pnx]) (hgo _ _ _ _ h)
  case dastore =>
    obtain ⟨r, i, st, rfl, h⟩ := k_ri_f h
    obtain ⟨hb, h⟩ := bif_f h
    obtain ⟨s, hq, h1, ch, hc, h⟩ := k_op_f (o := pn pstr (r - 500)) h
    exact pEnds.nx hM he (by simp only [pstep, k_ri, hb, cond_true, hq, k_op, if_pos h1, hc, pnx]) (hgo _ _ _ _ h)
  case ireturn =>
    unfold pw1 at h
    dsimp only at h
    split at h
    · rename_i x
      cases hc : (c == 3) with
      | true =>
        rw [hc] at h
        exact pEnds.ret hM he (by simp only [pstep, hc, cond_true, if_pos h.1]) h.2
      | false =>
        rw [hc] at h
        exact pEnds.ret hM he (by simp only [pstep, hc, cond_false]) h
    · exact h.elim
  case lreturn =>
    unfold pw1 at h
    dsimp only at h
    split at h
    · exact pEnds.ret hM he rfl h
    · exact h.elim
  case return_ =>
    unfold pw1 at h
    dsimp only at h
    split at h
    · exact pEnds.ret hM he rfl h
    · exact h.elim
  all_goals exact False.elim h
/-- the second knows what the first knows -/
def ple : List pV → List pV → Prop
  | [], [] => True
  | a :: l, b :: l' => (a = pU ∨ a = b) ∧ ple l l'
  | _, _ => False
theorem ple_refl : ∀ l : List pV, ple l l
  | [] => trivial
  | _ :: l => ⟨Or.inr rfl, ple_refl l⟩
theorem ple_mk : ∀ (m : List Bool) (l : List pV), ple (pmk m l) l
  | [], l => by unfold pmk; exact ple_refl l
  | true :: m, v :: l => ⟨Or.inr rfl, ple_mk m l⟩
  | false :: m, v :: l => ⟨Or.inl rfl, ple_mk m l⟩
  | true :: _, [] => trivial
  | false :: _, [] => trivial
theorem ple_pn : ∀ {l l' : List pV} (i : Nat), ple l l' → pn l i = none ∨ pn l i = some pU ∨ pn l' i = pn l i
  | [], [], i, _ => Or.inl rfl
  | a :: l, b :: l', 0, h => by
    rcases h.1 with e | e
    · subst e; exact Or.inr (Or.inl rfl)
    · subst e; exact Or.inr (Or.inr rfl)
  | a :: l, b :: l', i + 1, h => ple_pn (l := l) (l' := l') i h.2
theorem ple_lst (v : pV) : ∀ {l l' : List pV} (i : Nat), ple l l' → ple (plst l i v) (plst l' i v)
  | [], [], i, _ => trivial
  | a :: l, b :: l', 0, h => ⟨Or.inr rfl, h.2⟩
  | a :: l, b :: l', 1, h => by
    have h0 := ple_lst v 0 h.2
    rcases a with x | x | x <;> rcases b with y | y | y <;> first | exact ⟨Or.inl rfl, h0⟩ | exact ⟨h.1, h0⟩ | (rcases h.1 with e | e <;> first | exact ⟨Or.inl e, h0⟩ | cases e)
  | a :: l, b :: l', i + 2, h => by
    have h0 := ple_lst v (i + 1) h.2
    rcases a with x | x | x <;> rcases b with y | y | y <;> exact ⟨h.1, h0⟩
theorem ple_lst2 (v : pV) {l l' : List pV} (i : Nat) (h : ple l l') : ple (plst2 l i v) (plst2 l' i v) := ple_lst v i (ple_lst pU (i + 1) h)
/-- what the first step comes to, the second comes to -/
def prel (o o' : Option pO) : Prop := ∀ r, o = some r → match r with
  | .inl (pc, l, stk, Y, G) => ∃ l', o' = some (.inl (pc, l', stk, Y, G)) ∧ ple l l'
  | .inr x => o' = some (.inr x)
theorem prel_n {o : Option pO} : prel none o := fun _ h => by cases h
theorem prel_x {Y : pY} {G : pG} {pc : Nat} {l l' stk : List pV} (h : ple l l') : prel (pnx Y G pc l stk) (pnx Y G pc l' stk) := fun r e => by cases e; exact ⟨l', rfl, h⟩
theorem prel_s {x : (Nat × List pV × List pV) ⊕ Option pV} : prel (some (.inr x)) (some (.inr x)) := fun r e => by cases e; rfl
theorem prel_if {c : Prop} [Decidable c] {a b a' b' : Option pO} (h1 : prel a a') (h2 : prel b b') : prel (if c then a else b) (if c then a' else b') := by split <;> assumption
theorem prel_bif {c : Bool} {a b a' b' : Option pO} (h1 : prel a a') (h2 : prel b b') : prel (bif c then a else b) (bif c then a' else b') := by cases c <;> assumption
theorem prel_op {β : Type} {o : Option β} {k k' : β → Option pO} (h : ∀ b, prel (k b) (k' b)) : prel (k_op o none k) (k_op o none k') := by cases o <;> first | exact prel_n | exact h _
theorem prel_i {stk : List pV} {k k' : Int → List pV → Option pO} (h : ∀ x0 x1, prel (k x0 x1) (k' x0 x1)) : prel (k_i stk none k) (k_i stk none k') := by
  unfold k_i; split
  · exact h _ _
  · exact prel_n
theorem prel_l {stk : List pV} {k k' : Int → List pV → Option pO} (h : ∀ x0 x1, prel (k x0 x1) (k' x0 x1)) : prel (k_l stk none k) (k_l stk none k') := by
  unfold k_l; split
  · exact h _ _
  · exact prel_n
theorem prel_r {stk : List pV} {k k' : Nat → List pV → Option pO} (h : ∀ x0 x1, prel (k x0 x1) (k' x0 x1)) : prel (k_r stk none k) (k_r stk none k') := by
  unfold k_r; split
  · exact h _ _
  · exact prel_n
theorem prel_ii {stk : List pV} {k k' : Int → Int → List pV → Option pO} (h : ∀ x0 x1 x2, prel (k x0 x1 x2) (k' x0 x1 x2)) : prel (k_ii stk none k) (k_ii stk none k') := by
  unfold k_ii; split
  · exact h _ _ _
  · exact prel_n
theorem prel_ll {stk : List pV} {k k' : Int → Int → List pV → Option pO} (h : ∀ x0 x1 x2, prel (k x0 x1 x2) (k' x0 x1 x2)) : prel (k_ll stk none k) (k_ll stk none k') := by
  unfold k_ll; split
  · exact h _ _ _
  · exact prel_n
theorem prel_li {stk : List pV} {k k' : Int → Int → List pV → Option pO} (h : ∀ x0 x1 x2, prel (k x0 x1 x2) (k' x0 x1 x2)) : prel (k_li stk none k) (k_li stk none k') := by
  unfold k_li; split
  · exact h _ _ _
  · exact prel_n
theorem prel_ri {stk : List pV} {k k' : Nat → Int → List pV → Option pO} (h : ∀ x0 x1 x2, prel (k x0 x1 x2) (k' x0 x1 x2)) : prel (k_ri stk none k) (k_ri stk none k') := by
  unfold k_ri; split
  · exact h _ _ _
  · exact prel_n
theorem prel_rl {stk : List pV} {k k' : Nat → Int → List pV → Option pO} (h : ∀ x0 x1 x2, prel (k x0 x1 x2) (k' x0 x1 x2)) : prel (k_rl stk none k) (k_rl stk none k') := by
  unfold k_rl; split
  · exact h _ _ _
  · exact prel_n
theorem prel_rr {stk : List pV} {k k' : Nat → Nat → List pV → Option pO} (h : ∀ x0 x1 x2, prel (k x0 x1 x2) (k' x0 x1 x2)) : prel (k_rr stk none k) (k_rr stk none k') := by
  unfold k_rr; split
  · exact h _ _ _
  · exact prel_n
theorem prel_rii {stk : List pV} {k k' : Nat → Int → Int → List pV → Option pO} (h : ∀ x0 x1 x2 x3, prel (k x0 x1 x2 x3) (k' x0 x1 x2 x3)) : prel (k_rii stk none k) (k_rii stk none k') := by
  unfold k_rii; split
  · exact h _ _ _ _
  · exact prel_n
theorem prel_ril {stk : List pV} {k k' : Nat → Int → Int → List pV → Option pO} (h : ∀ x0 x1 x2 x3, prel (k x0 x1 x2 x3) (k' x0 x1 x2 x3)) : prel (k_ril stk none k) (k_ril stk none k') := by
  unfold k_ril; split
  · exact h _ _ _ _
  · exact prel_n
theorem prel_cp {stk : List pV} {k k' : Nat → Int → Nat → Int → Int → List pV → Option pO} (h : ∀ x0 x1 x2 x3 x4 x5, prel (k x0 x1 x2 x3 x4 x5) (k' x0 x1 x2 x3 x4 x5)) : prel (k_cp stk none k) (k_cp stk none k') := by
  unfold k_cp; split
  · exact h _ _ _ _ _ _
  · exact prel_n
theorem prel_d {stk : List pV} {k k' : pV → List pV → Option pO} (h : ∀ v st, prel (k v st) (k' v st)) : prel (k_d stk none k) (k_d stk none k') := by
  unfold k_d k_c1; split
  · split
    · exact prel_n
    · exact h _ _
  · exact prel_n
theorem prel_d2 {stk : List pV} {k k' : pV → pV → List pV → Option pO} (h : ∀ v w st, prel (k v w st) (k' v w st)) : prel (k_d2 stk none k) (k_d2 stk none k') := by
  unfold k_d2 k_c1; split
  · split
    · exact prel_n
    · split
      · exact prel_n
      · exact h _ _ _
  · exact prel_n
theorem prel_oi {l l' : List pV} {i : Nat} {k k' : Int → Option pO} (hl : ple l l') (h : ∀ x, prel (k x) (k' x)) : prel (k_oi (pn l i) none k) (k_oi (pn l' i) none k') := by
  rcases ple_pn i hl with e | e | e
  · rw [e]; exact prel_n
  · rw [e]; exact prel_n
  · rw [e]; unfold k_oi; split
    · exact h _
    · exact prel_n
theorem prel_ol {l l' : List pV} {i : Nat} {k k' : Int → Option pO} (hl : ple l l') (h : ∀ x, prel (k x) (k' x)) : prel (k_ol (pn l i) none k) (k_ol (pn l' i) none k') := by
  rcases ple_pn i hl with e | e | e
  · rw [e]; exact prel_n
  · rw [e]; exact prel_n
  · rw [e]; unfold k_ol; split
    · exact h _
    · exact prel_n
theorem prel_or {l l' : List pV} {i : Nat} {k k' : Nat → Option pO} (hl : ple l l') (h : ∀ x, prel (k x) (k' x)) : prel (k_or (pn l i) none k) (k_or (pn l' i) none k') := by
  rcases ple_pn i hl with e | e | e
  · rw [e]; exact prel_n
  · rw [e]; exact prel_n
  · rw [e]; unfold k_or; split
    · exact h _
    · exact prel_n
set_option maxHeartbeats 4000000 in
set_option maxRecDepth 20000 in
theorem prel_step {Y : pY} {G : pG} {e : pE} {pc : Nat} {l l' stk : List pV} (hl : ple l l') : prel (pstep Y G e pc l stk) (pstep Y G e pc l' stk) := by
  obtain ⟨o, len, a, b, c⟩ := e
  cases o
  case iconst x => exact prel_x hl
  case ldc2_w x => exact prel_x hl
  case ldc x => exact prel_x hl
  case goto x => exact prel_x hl
  case new x => exact prel_x hl
  case iload i => exact prel_oi hl (fun _ => prel_x hl)
  case lload i => exact prel_ol hl (fun _ => prel_x hl)
  case aload i => exact prel_or hl (fun _ => prel_x hl)
  case istore i => exact prel_i (fun _ _ => prel_x (ple_lst _ i hl))
  case lstore i => exact prel_l (fun _ _ => prel_x (ple_lst2 _ i hl))
  case astore i => exact prel_r (fun _ _ => prel_x (ple_lst _ i hl))
  case iinc i k => exact prel_oi hl (fun _ => prel_x (ple_lst _ i hl))
  case iadd => exact prel_ii (fun _ _ _ => prel_x hl)
  case isub => exact prel_ii (fun _ _ _ => prel_x hl)
  case imul => exact prel_ii (fun _ _ _ => prel_x hl)
  case iand => exact prel_ii (fun _ _ _ => prel_x hl)
  case ior => exact prel_ii (fun _ _ _ => prel_x hl)
  case ixor => exact prel_ii (fun _ _ _ => prel_x hl)
  case ishl => exact prel_ii (fun _ _ _ => prel_x hl)
  case ishr => exact prel_ii (fun _ _ _ => prel_x hl)
  case iushr => exact prel_ii (fun _ _ _ => prel_x hl)
  case ladd => exact prel_ll (fun _ _ _ => prel_x hl)
  case lsub => exact prel_ll (fun _ _ _ => prel_x hl)
  case lmul => exact prel_ll (fun _ _ _ => prel_x hl)
  case land => exact prel_ll (fun _ _ _ => prel_x hl)
  case lor => exact prel_ll (fun _ _ _ => prel_x hl)
  case lcmp => exact prel_ll (fun _ _ _ => prel_x hl)
  case lshl => exact prel_li (fun _ _ _ => prel_x hl)
  case lshr => exact prel_li (fun _ _ _ => prel_x hl)
  case idiv => exact prel_ii (fun _ _ _ => prel_if prel_n (prel_x hl))
  case irem => exact prel_ii (fun _ _ _ => prel_if prel_n (prel_x hl))
  case ldiv => exact prel_ll (fun _ _ _ => prel_if prel_n (prel_x hl))
  case lrem => exact prel_ll (fun _ _ _ => prel_if prel_n (prel_x hl))
  case ineg => exact prel_i (fun _ _ => prel_x hl)
  case i2l => exact prel_i (fun _ _ => prel_x hl)
  case i2b => exact prel_i (fun _ _ => prel_x hl)
  case lneg => exact prel_l (fun _ _ => prel_x hl)
  case l2i => exact prel_l (fun _ _ => prel_x hl)
  case dup => exact prel_d (fun _ _ => prel_x hl)
  case dup2 => exact prel_d2 (fun _ _ _ => prel_x hl)
  case ifCond cc off => exact prel_i (fun _ _ => prel_bif (prel_x hl) (prel_x hl))
  case if_icmp cc off => exact prel_ii (fun _ _ _ => prel_bif (prel_x hl) (prel_x hl))
  case tableswitch dflt lo hi offs => exact prel_i (fun _ _ => prel_if (prel_x hl) (prel_op (fun _ => prel_x hl)))
  case lookupswitch dflt ps => exact prel_i (fun _ _ => prel_x hl)
  case getfield i => exact prel_r (fun _ _ => prel_bif (by
    split
    · exact prel_x hl
    · exact prel_op (fun _ => prel_x hl)
    · exact prel_x hl) prel_n)
  case putfield i =>
    unfold pstep
    dsimp only
    split
    · exact prel_ri (fun _ _ _ => prel_bif (prel_x hl) prel_n)
    · exact prel_rl (fun _ _ _ => prel_bif (prel_x hl) prel_n)
    · exact prel_ri (fun _ _ _ => prel_bif (prel_if (prel_x hl) prel_n) prel_n)
    · exact prel_rr (fun _ _ _ => prel_bif (prel_x hl) prel_n)
  case iaload => exact prel_ri (fun _ _ _ => prel_bif (prel_if (prel_x hl) prel_n) prel_n)
  case laload => exact prel_ri (fun _ _ _ => prel_bif (prel_if (prel_x hl) prel_n) prel_n)
  case baload => exact prel_ri (fun _ _ _ => prel_bif (prel_if (prel_x hl) prel_n) prel_n)
  case aaload => exact prel_ri (fun _ _ _ => prel_bif (prel_if (prel_op (fun _ => prel_x hl)) prel_n) prel_n)
  case iastore => exact prel_rii (fun _ _ _ _ => prel_bif (prel_if (prel_x hl) prel_n) prel_n)
  case bastore => exact prel_rii (fun _ _ _ _ => prel_bif (prel_if (prel_x hl) prel_n) prel_n)
  case lastore => exact prel_ril (fun _ _ _ _ => prel_bif (prel_if (prel_x hl) prel_n) prel_n)
  case arraylength => exact prel_r (fun _ _ => prel_bif (prel_x hl) prel_n)
  case invokestatic rc => exact prel_op (fun _ => prel_bif prel_s prel_n)
  case pop => exact prel_r (fun _ _ => prel_bif (prel_x hl) prel_n)
  case f2d => exact prel_ii (fun _ _ _ => prel_bif (prel_x hl) prel_n)
  case f2i => exact prel_ii (fun _ _ _ => prel_bif (prel_x hl) prel_n)
  case d2i => exact prel_ll (fun _ _ _ => prel_bif (prel_x hl) prel_n)
  case f2l => exact prel_i (fun _ _ => prel_bif (prel_x hl) prel_n)
  case d2f => exact prel_l (fun _ _ => prel_bif (prel_x hl) prel_n)
  case d2l => exact prel_cp (fun _ _ _ _ _ _ => prel_bif (prel_bif (prel_if (prel_x hl) prel_n) prel_n) prel_n)
  case daload => exact prel_r (fun _ _ => prel_bif (prel_op (fun _ => prel_x hl)) prel_n)
  case dastore => exact prel_ri (fun _ _ _ => prel_bif (prel_op (fun _ => prel_if (prel_op (fun _ => prel_x hl)) prel_n)) prel_n)
  case newarray t => exact prel_i (fun _ _ => prel_if (prel_x hl) prel_n)
  case multianewarray i n => exact prel_ii (fun _ _ _ => prel_if (prel_x hl) prel_n)
  case ireturn =>
    unfold pstep
    dsimp only
    split
    · exact prel_bif (prel_if prel_s prel_n) prel_s
    · exact prel_n
  case lreturn =>
    unfold pstep
    dsimp only
    split
    · exact prel_s
    · exact prel_n
  case return_ =>
    unfold pstep
    dsimp only
    split
    · exact prel_s
    · exact prel_n
  all_goals exact prel_n
theorem pexec_more (MT : Nat → Option pM) : ∀ (f d M pc : Nat) (l l' stk : List pV) (Y : pY) (G : pG) (r : Option pV × pY × pG), ple l l' → pexec MT f d M pc l stk Y G = some r → pexec MT f d M pc l' stk Y G = some r := by
  intro f
  induction f with
  | zero => intro d M pc l l' stk Y G r _ h; exact absurd h (by simp [pexec])
  | succ f ih =>
    intro d M pc l l' stk Y G r hl h
    rw [pexec] at h ⊢
    cases hM : MT M with
    | none => rw [hM] at h; exact absurd h (by simp)
    | some mi =>
      rw [hM] at h
      dsimp only at h ⊢
      cases hk : plook mi.1 pc with
      | none => rw [hk] at h; exact absurd h (by simp)
      | some e =>
        rw [hk] at h
        dsimp only at h ⊢
        have hp := prel_step (Y := Y) (G := G) (e := e) (pc := pc) (stk := stk) hl
        rcases hs : pstep Y G e pc l stk with _ | (⟨pc', loc', stk', Y', G'⟩ | ⟨m, as, st⟩ | r')
        · rw [hs] at h; exact absurd h (by simp)
        · rw [hs] at h
          obtain ⟨l2, h2, h3⟩ := hp _ hs
          rw [h2]
          exact ih _ _ _ _ _ _ _ _ _ h3 h
        · rw [hs] at h
          have h2 : pstep Y G e pc l' stk = some (.inr (.inl (m, as, st))) := hp _ hs
          rw [h2]
          dsimp only at h ⊢
          cases d with
          | zero => exact absurd h (by simp)
          | succ d' =>
            dsimp only at h ⊢
            cases hm : MT m with
            | none => rw [hm] at h; exact absurd h (by simp)
            | some mc =>
              rw [hm] at h
              dsimp only at h ⊢
              cases hc : pexec MT f d' m 0 (pent as mc.2.1) [] Y G with
              | none => rw [hc] at h; exact absurd h (by simp)
              | some q =>
                obtain ⟨r1, Y1, G1⟩ := q
                rw [hc] at h
                exact ih _ _ _ _ _ _ _ _ _ hl h
        · rw [hs] at h
          have h2 : pstep Y G e pc l' stk = some (.inr (.inr r')) := hp _ hs
          rw [h2]
          exact h
theorem pEnds.more {MT : Nat → Option pM} {d M : Nat} {Y : pY} {R : Option pV → pG → Prop} {pc : Nat} {l l' stk : List pV} {G : pG} (hl : ple l l') (h : pEnds MT d M Y R pc l stk G) : pEnds MT d M Y R pc l' stk G := by
  obtain ⟨f, r, G', h1, h2⟩ := h
  exact ⟨f, r, G', pexec_more MT _ _ _ _ _ _ _ _ _ _ hl h1, h2⟩
theorem pwp_ok {MT : Nat → Option pM} {d M : Nat} {cs : List (Nat × List Bool)} {Y : pY} {R : Option pV → pG → Prop} {mi : pM} (hM : MT M = some mi) : ∀ (n pc : Nat) (loc stk : List pV) (G : pG), pwp MT d M mi.1 cs Y R n pc loc stk G → pEnds MT d M Y R pc loc stk G := by
  intro n
  induction n with
  | zero => intro pc loc stk G h; exact h
  | succ n ih =>
    intro pc loc stk G h
    obtain ⟨e, he, h⟩ := k_op_f h
    refine pw1_sound hM (fun pc' loc' stk' G' hg => ?_) he h
    cases hc : pcut cs pc' with
    | some m => rw [hc] at hg; exact pEnds.more (ple_mk m loc') hg
    | none => rw [hc] at hg; exact ih _ _ _ _ hg
/-- n steps of a method with the code t, not through the places cs -/
theorem pwp_go {MT : Nat → Option pM} {d M : Nat} (t : pT) (cs : List (Nat × List Bool)) (n : Nat) {Y : pY} {R : Option pV → pG → Prop} {mL rc : Nat} (hM : MT M = some (t, mL, rc)) {pc : Nat} {loc stk : List pV} {G : pG} (h : pwp MT d M t cs Y R n pc loc stk G) : pEnds MT d M Y R pc loc stk G := pwp_ok (mi := (t, mL, rc)) hM n pc loc stk G h

theorem pRuns.of {MT : Nat → Option pM} {d m : Nat} {as : List pV} {Y : pY} {G G' : pG} {r : Option pV} {mi : pM} (hM : MT m = some mi) (h : pEnds MT d m Y (fun r' g => r' = r ∧ g = G') 0 (pent as mi.2.1) [] G) : pRuns MT d m as Y G r G' := by
  obtain ⟨f, r1, G1, h1, rfl, rfl⟩ := h
  exact ⟨mi, f, hM, h1⟩
end
