/-! AN EXECUTOR THAT THE KERNEL RUNS: numbers are Nats (an int x is x + 2^31, a long x + 2^63), cells in lists of lists of lists; what is not known stands as 'symbol j plus an offset', with bounds in a table -/
/-- a value: kind and number. 0 int, 1 reference (0 null, 2k+1 the k-th new cell, 2j+2 the j-th old one), 2 long, 3 float, 4 double, 5 a symbol's int, 6 a symbol's long, 7 nothing is known, 8 some reference -/
abbrev xV : Type := Nat × Nat
/-- a cell: (2 * class or 2 * array type + 1, its length, what stands where its rows end), rows of 16 -/
abbrev xC : Type := (Nat × Nat × xV) × List (List xV)
/-- cells made, slots made, the cells: 256, 16, 1 -/
abbrev xH : Type := Nat × Nat × List (List (List xC))
abbrev xI : Type := ClassFile.Instr × List Nat
/-- pc where it begins, its instructions -/
abbrev xB : Type := Nat × List xI
/-- a method: its name, code, size, answer; the kinds of its arguments (0 one slot, 1 two); blocks; its table: from, to, handler's block, the exceptions' classes that it takes -/
abbrev xM : Type := (MethodName × ByteArray × Nat × Option FieldType) × List Nat × List xB × List (Nat × Nat × Nat × Nat)
/-- a class: name, fields, how many, what they hold at first (rows of 16), slots -/
abbrev xK : Type := String × (Nat → String × String × String × Bool) × Nat × List (List xV) × Nat
/-- methods, classes, array types' first values, old cells, statics, bounds of the symbols, dispatch: (class, method) rows -/
abbrev xG : Type := List (List xM) × List xK × List (FieldType × xV) × List (List xC) × List xV × List (Nat × Nat × Nat) × List (List (Nat × Nat))
noncomputable def xg {α : Type} (l : List α) : Nat → Option α := List.rec (fun _ => none) (fun a _ ih n => Nat.casesOn n (some a) ih) l
noncomputable def xgd {α : Type} (d : α) (l : List α) : Nat → α := List.rec (fun _ => d) (fun a _ ih n => Nat.casesOn n a ih) l
/-- set, with d where it must be longer -/
noncomputable def xpad {α : Type} (d v : α) : Nat → List α := Nat.rec [v] (fun _ ih => d :: ih)
noncomputable def xs {α : Type} (d v : α) (l : List α) : Nat → List α := List.rec (fun n => xpad d v n) (fun a t ih n => Nat.casesOn n (v :: t) (fun m => a :: ih m)) l
noncomputable def xforce {β : Type} (n : Nat) (k : Nat → β) : β := Nat.casesOn n (k 0) (fun m => k (Nat.succ m))
noncomputable def hget (h : xH) (k : Nat) : Option xC := xg (xgd [] (xgd [] h.2.2 (k / 256)) (k / 16 % 16)) (k % 16)
noncomputable def hput (d : List (List (List xC))) (k : Nat) (c : xC) : List (List (List xC)) :=
  let a := xgd [] d (k / 256)
  let b := xgd [] a (k / 16 % 16)
  xs [] (xs [] (xs ((0, 0, (7, 0)), []) c b (k % 16)) a (k / 16 % 16)) d (k / 256)
noncomputable def hset (h : xH) (k : Nat) (c : xC) : xH := (h.1, h.2.1, hput h.2.2 k c)
noncomputable def hnew (h : xH) (n : Nat) (c : xC) : xH := xforce (h.1 + 1) fun a => xforce (h.2.1 + n) fun b => (a, b, hput h.2.2 h.1 c)
noncomputable def cget (c : xC) (i : Nat) : xV := xgd c.1.2.2 (xgd [] c.2 (i / 16)) (i % 16)
noncomputable def cset (c : xC) (i : Nat) (v : xV) : xC := (c.1, xs [] (xs c.1.2.2 v (xgd [] c.2 (i / 16)) (i % 16)) c.2 (i / 16))
def u32 (a : Nat) : Nat := (a + 2147483648) % 4294967296
def u64 (a : Nat) : Nat := (a + 9223372036854775808) % 18446744073709551616
def iadd (a b : Nat) : Nat := (a + b + 2147483648) % 4294967296
def isub (a b : Nat) : Nat := (a + 6442450944 - b) % 4294967296
def imul (a b : Nat) : Nat := (u32 a * u32 b + 2147483648) % 4294967296
def ineg (a : Nat) : Nat := (4294967296 - a) % 4294967296
def iabs (a : Nat) : Nat := if Nat.ble 2147483648 a then a - 2147483648 else 2147483648 - a
def isgn (neg : Bool) (q : Nat) : Nat := if neg then (6442450944 - q) % 4294967296 else (q + 2147483648) % 4294967296
def idiv (a b : Nat) : Nat := isgn (Nat.blt a 2147483648 != Nat.blt b 2147483648) (iabs a / iabs b)
def irem (a b : Nat) : Nat := isgn (Nat.blt a 2147483648) (iabs a % iabs b)
def iand (a b : Nat) : Nat := u32 (Nat.land (u32 a) (u32 b))
def ior (a b : Nat) : Nat := u32 (Nat.lor (u32 a) (u32 b))
def ixor (a b : Nat) : Nat := u32 (Nat.xor (u32 a) (u32 b))
def ishl (a b : Nat) : Nat := u32 (u32 a * 2 ^ (u32 b % 32))
def ishr (a b : Nat) : Nat := (a + 2147483648 * 2 ^ (u32 b % 32) - 2147483648) / 2 ^ (u32 b % 32)
def iushr (a b : Nat) : Nat := u32 (u32 a / 2 ^ (u32 b % 32))
def i2b (a : Nat) : Nat := if Nat.blt (u32 a % 256) 128 then u32 a % 256 + 2147483648 else u32 a % 256 + 2147483392
def i2c (a : Nat) : Nat := u32 a % 65536 + 2147483648
def i2l (a : Nat) : Nat := a + 9223372034707292160
def l2i (a : Nat) : Nat := u32 (u64 a % 4294967296)
def ladd (a b : Nat) : Nat := (a + b + 9223372036854775808) % 18446744073709551616
def lsub (a b : Nat) : Nat := (a + 27670116110564327424 - b) % 18446744073709551616
def lmul (a b : Nat) : Nat := (u64 a * u64 b + 9223372036854775808) % 18446744073709551616
def land (a b : Nat) : Nat := u64 (Nat.land (u64 a) (u64 b))
def lushr (a b : Nat) : Nat := u64 (u64 a / 2 ^ (u32 b % 64))
def lcmp (a b : Nat) : Nat := if Nat.blt b a then 2147483649 else if Nat.beq a b then 2147483648 else 2147483647
/-- the bounds of a symbol with an offset: least, greatest (as ints stand here), step -/
noncomputable def xbd (E : List (Nat × Nat × Nat)) (p : Nat) : Option (Nat × Nat × Nat) :=
  match xg E (p / 8589934592) with
  | some (lo, hi, st) =>
    if Nat.ble 4294967296 (lo + p % 8589934592) && Nat.blt (hi + p % 8589934592) 8589934592 then some (lo + p % 8589934592 - 4294967296, hi + p % 8589934592 - 4294967296, st) else none
  | none => none
def cmpN (c : ClassFile.Cond) (a b : Nat) : Bool := match c with
  | .eq => Nat.beq a b
  | .ne => !Nat.beq a b
  | .lt => Nat.blt a b
  | .ge => Nat.ble b a
  | .gt => Nat.blt b a
  | .le => Nat.ble a b
/-- a number between lo and hi, lo and a multiple of st, against c -/
def cmpB (c : ClassFile.Cond) (lo hi st b : Nat) : Option Bool := match c with
  | .eq => if Nat.blt b lo || Nat.blt hi b || !Nat.beq ((b - lo) % st) 0 then some false else none
  | .ne => if Nat.blt b lo || Nat.blt hi b || !Nat.beq ((b - lo) % st) 0 then some true else none
  | .lt => if Nat.blt hi b then some true else if Nat.ble b lo then some false else none
  | .ge => if Nat.blt hi b then some false else if Nat.ble b lo then some true else none
  | .gt => if Nat.ble hi b then some false else if Nat.blt b lo then some true else none
  | .le => if Nat.ble hi b then some true else if Nat.blt b lo then some false else none
def cswap (c : ClassFile.Cond) : ClassFile.Cond := match c with
  | .eq => .eq
  | .ne => .ne
  | .lt => .gt
  | .ge => .le
  | .gt => .lt
  | .le => .ge
noncomputable def xcmp (E : List (Nat × Nat × Nat)) (c : ClassFile.Cond) (x y : xV) : Option Bool :=
  match x.1, y.1 with
  | 0, 0 => some (cmpN c x.2 y.2)
  | 5, 0 => (match xbd E x.2 with | some (lo, hi, st) => cmpB c lo hi st y.2 | none => none)
  | 0, 5 => (match xbd E y.2 with | some (lo, hi, st) => cmpB (cswap c) lo hi st x.2 | none => none)
  | 5, 5 => if Nat.beq (x.2 / 8589934592) (y.2 / 8589934592) then (match xbd E x.2, xbd E y.2 with | some _, some _ => some (cmpN c (x.2 % 8589934592) (y.2 % 8589934592)) | _, _ => none) else none
  | _, _ => none
noncomputable def xadd (E : List (Nat × Nat × Nat)) (x y : xV) : Option xV :=
  match x.1, y.1 with
  | 0, 0 => some (0, iadd x.2 y.2)
  | 5, 0 => if Nat.ble 2147483648 (x.2 % 8589934592 + y.2) && Nat.blt (x.2 % 8589934592 + y.2) 10737418240 then (match xbd E (x.2 + y.2 - 2147483648) with | some _ => some (5, x.2 + y.2 - 2147483648) | none => none) else none
  | _, _ => none
noncomputable def xint (f : Nat → Nat → Nat) (x y : xV) : Option xV := match x.1, y.1 with
  | 0, 0 => some (0, f x.2 y.2)
  | _, _ => none
noncomputable def xlong (f : Nat → Nat → Nat) (x y : xV) : Option xV := match x.1, y.1 with
  | 2, 2 => some (2, f x.2 y.2)
  | _, _ => none
noncomputable def xrem (E : List (Nat × Nat × Nat)) (x y : xV) : Option xV :=
  match x.1, y.1 with
  | 0, 0 => if Nat.beq y.2 2147483648 then none else some (0, irem x.2 y.2)
  | 5, 0 => (match xbd E x.2 with
    | some (lo, _, st) => if Nat.ble 2147483648 lo && Nat.blt 2147483648 y.2 && Nat.beq (st % (y.2 - 2147483648)) 0 then some (0, (lo - 2147483648) % (y.2 - 2147483648) + 2147483648) else none
    | none => none)
  | _, _ => none
/-- an operation on the two topmost values -/
noncomputable def xbin (E : List (Nat × Nat × Nat)) (i : ClassFile.Instr) (x y : xV) : Option xV := match i with
  | .iadd => xadd E x y
  | .isub => xint isub x y
  | .imul => xint imul x y
  | .idiv => if Nat.beq y.2 2147483648 then none else xint idiv x y
  | .irem => xrem E x y
  | .iand => xint iand x y
  | .ior => xint ior x y
  | .ixor => xint ixor x y
  | .ishl => xint ishl x y
  | .ishr => xint ishr x y
  | .iushr => xint iushr x y
  | .ladd => xlong ladd x y
  | .lsub => xlong lsub x y
  | .lmul => xlong lmul x y
  | .land => xlong land x y
  | .lushr => (match x.1, y.1 with | 2, 0 => some (2, lushr x.2 y.2) | _, _ => none)
  | .lcmp => (match x.1, y.1 with
    | 2, 2 => some (0, lcmp x.2 y.2)
    | 6, 6 => if Nat.beq x.2 y.2 then some (0, 2147483648) else none
    | _, _ => none)
  | _ => none
noncomputable def xun (E : List (Nat × Nat × Nat)) (i : ClassFile.Instr) (x : xV) : Option xV := match i with
  | .ineg => (match x.1 with | 0 => some (0, ineg x.2) | _ => none)
  | .i2l => (match x.1 with | 0 => some (2, i2l x.2) | 5 => some (6, x.2) | _ => none)
  | .l2i => (match x.1 with | 2 => some (0, l2i x.2) | 6 => some (5, x.2) | _ => none)
  | .i2b => (match x.1 with | 0 => some (0, i2b x.2) | _ => none)
  | .i2c => (match x.1 with
    | 0 => some (0, i2c x.2)
    | 5 => (match xbd E x.2 with | some (lo, hi, _) => if Nat.ble 2147483648 lo && Nat.blt hi 2147549184 then some x else none | none => none)
    | _ => none)
  | _ => none
def xwide (v : xV) : Bool := match v.1 with
  | 2 => true
  | 4 => true
  | 6 => true
  | _ => false
/-- a value of one slot, known -/
def xone (v : xV) : Bool := match v.1 with
  | 0 => true
  | 1 => true
  | 3 => true
  | 5 => true
  | 8 => true
  | _ => false
/-- storing a local -/
noncomputable def xst (ls : List xV) (i : Nat) (v : xV) : List xV :=
  let a := if xwide v then xs (7, 0) (7, 0) ls (i + 1) else ls
  let b := xs (7, 0) v a i
  match i with
  | 0 => b
  | k + 1 => if xwide (xgd (7, 0) ls k) then xs (7, 0) (7, 0) b k else b
noncomputable def xidx (c : xC) (x : xV) : Option Nat := match x.1 with
  | 0 => if Nat.ble 2147483648 x.2 && Nat.blt (x.2 - 2147483648) c.1.2.1 then some (x.2 - 2147483648) else none
  | _ => none
noncomputable def xold (G : xG) (j : Nat) : Option xC := xg (xgd [] G.2.2.2.1 (j / 16)) (j % 16)
/-- the cell of a reference -/
noncomputable def xcell (G : xG) (h : xH) (x : xV) : Option xC := match x.1 with
  | 1 => if Nat.beq (x.2 % 2) 1 then (if Nat.blt (x.2 / 2) h.1 then hget h (x.2 / 2) else none) else if Nat.beq x.2 0 then none else xold G (x.2 / 2 - 1)
  | _ => none
noncomputable def xnewk (h : xH) (x : xV) : Option Nat := match x.1 with
  | 1 => if Nat.beq (x.2 % 2) 1 && Nat.blt (x.2 / 2) h.1 then some (x.2 / 2) else none
  | _ => none
