/-! ===== the abstract machine: cells by number, three tables of contents (ints, longs, references) and how many cells there are ===== -/
abbrev Hp : Type := (Nat → Nat → Int32) × (Nat → Nat → Int64) × (Nat → Nat → Option Nat) × Nat
def hI (h : Hp) : Nat → Nat → Int32 := h.1
def hL (h : Hp) : Nat → Nat → Int64 := h.2.1
def hR (h : Hp) : Nat → Nat → Option Nat := h.2.2.1
def hN (h : Hp) : Nat := h.2.2.2
def up2 {α : Type} (f : Nat → Nat → α) (c j : Nat) (v : α) : Nat → Nat → α := fun c' j' => if c' = c ∧ j' = j then v else f c' j'
def uI (h : Hp) (c j : Nat) (v : Int32) : Hp := (up2 h.1 c j v, h.2.1, h.2.2.1, h.2.2.2)
def uL (h : Hp) (c j : Nat) (v : Int64) : Hp := (h.1, up2 h.2.1 c j v, h.2.2.1, h.2.2.2)
def uR (h : Hp) (c j : Nat) (v : Option Nat) : Hp := (h.1, h.2.1, up2 h.2.2.1 c j v, h.2.2.2)
/-- a whole row of ints replaced -/
def uA (h : Hp) (c : Nat) (f : Nat → Int32) : Hp := (fun c' j' => if c' = c then f j' else h.1 c' j', h.2.1, h.2.2.1, h.2.2.2)
/-- a fresh cell: all zero, the next number -/
def hNew (h : Hp) : Hp := (fun c' j' => if c' = h.2.2.2 then 0 else h.1 c' j', fun c' j' => if c' = h.2.2.2 then 0 else h.2.1 c' j', fun c' j' => if c' = h.2.2.2 then none else h.2.2.1 c' j', h.2.2.2 + 1)
abbrev inb (i : Int32) (n : Nat) : Prop := 0 ≤ i.toInt ∧ i.toInt < (n : Int)
def ix (i : Int32) : Nat := i.toNatClampNeg
def rv (r : Option Nat) : Value := match r with
  | none => .null
  | some q => .ref q
def csum (st : List Value) : Nat := (st.map fun v => v.category).sum
def bini (f : Int32 → Int32 → Int32) : List Value → Option (List Value)
  | .int y :: .int x :: st => some (.int (f x y) :: st)
  | _ => none
def divi (f : Int32 → Int32 → Int32) : List Value → Option (List Value)
  | .int y :: .int x :: st => if y = 0 then none else some (.int (f x y) :: st)
  | _ => none
def binl (f : Int64 → Int64 → Int64) : List Value → Option (List Value)
  | .long y :: .long x :: st => some (.long (f x y) :: st)
  | _ => none
def divl (f : Int64 → Int64 → Int64) : List Value → Option (List Value)
  | .long y :: .long x :: st => if y = 0 then none else some (.long (f x y) :: st)
  | _ => none
def unai (f : Int32 → Int32) : List Value → Option (List Value)
  | .int x :: st => some (.int (f x) :: st)
  | _ => none
def iushr (x y : Int32) : Int32 := (x.toUInt32 >>> (y.toUInt32 &&& Int32.toUInt32 31)).toInt32
def irem (x y : Int32) : Int32 := x - x / y * y
def lshl (x : Int64) (y : Int32) : Int64 := x <<< (y.toInt64 &&& 63)
/-- instructions on the stack alone -/
def pst (op : Nat) (a : Int32) (st : List Value) : Option (List Value) :=
  if op < 6 then some (.int a :: st)
  else if op < 8 then some (.long a.toInt64 :: st)
  else if op = 10 then bini (fun x y => x + y) st
  else if op = 11 then bini (fun x y => x - y) st
  else if op = 12 then bini (fun x y => x * y) st
  else if op = 13 then bini (fun x y => x &&& y) st
  else if op = 14 then bini (fun x y => x ||| y) st
  else if op = 15 then bini (fun x y => x ^^^ y) st
  else if op = 16 then bini (fun x y => x <<< (y &&& 31)) st
  else if op = 17 then bini (fun x y => x >>> (y &&& 31)) st
  else if op = 18 then bini iushr st
  else if op = 19 then divi (fun x y => x / y) st
  else if op = 20 then divi irem st
  else if op = 21 then unai (fun x => -x) st
  else if op = 22 then unai (fun x => x.toInt8.toInt32) st
  else if op = 23 then (match st with
    | .int x :: st => some (.long x.toInt64 :: st)
    | _ => none)
  else if op = 24 then (match st with
    | .long x :: st => some (.int x.toInt32 :: st)
    | _ => none)
  else if op = 25 then binl (fun x y => x + y) st
  else if op = 26 then binl (fun x y => x - y) st
  else if op = 27 then binl (fun x y => x * y) st
  else if op = 28 then divl (fun x y => x / y) st
  else if op = 29 then binl (fun x y => x &&& y) st
  else if op = 30 then binl (fun x y => x ||| y) st
  else if op = 31 then (match st with
    | .long x :: st => some (.long (-x) :: st)
    | _ => none)
  else if op = 32 then (match st with
    | .int y :: .long x :: st => some (.long (lshl x y) :: st)
    | _ => none)
  else if op = 33 then (match st with
    | .long y :: .long x :: st => some (.int (lg_cmp x y) :: st)
    | _ => none)
  else if op = 35 then (match st with
    | v :: st => if v.category = 1 then some (v :: v :: st) else none
    | _ => none)
  else if op = 36 then (match st with
    | v :: st => if v.category = 1 then some st else none
    | _ => none)
  else if op = 37 then (match st with
    | v :: u :: st => if v.category = 1 ∧ u.category = 1 then some (v :: u :: v :: u :: st) else none
    | _ => none)
  else none
def mmax (x y : Int32) : Int32 := if x < y then y else x
def mmin (x y : Int32) : Int32 := if y < x then y else x
def mabs (x : Int32) : Int32 := if 0 ≤ x then x else 0 - x
def mmaxl (x y : Int64) : Int64 := if y < x then x else y
def mminl (x y : Int64) : Int64 := if y < x then y else x
/-- Math's own: what comes of the stack, and what was below -/
def mst (op : Nat) (st : List Value) : Option (Value × List Value) :=
  if op = 40 then (match st with
    | .int y :: .int x :: st => some (.int (mmax x y), st)
    | _ => none)
  else if op = 41 then (match st with
    | .int y :: .int x :: st => some (.int (mmin x y), st)
    | _ => none)
  else if op = 42 then (match st with
    | .int x :: st => some (.int (mabs x), st)
    | _ => none)
  else if op = 43 then (match st with
    | .long y :: .long x :: st => some (.long (mmaxl x y), st)
    | _ => none)
  else if op = 44 then (match st with
    | .long y :: .long x :: st => some (.long (mminl x y), st)
    | _ => none)
  else none
abbrev Lv : Type := List (Option Value)
def lget : Lv → Nat → Option Value
  | [], _ => none
  | a :: _, 0 => a
  | _ :: l, i + 1 => lget l i
/-- kinds of a local by the instruction: ints, longs, references -/
def ldv (op : Nat) (b : Nat) (ls : Lv) : Option Value := match lget ls b with
  | none => none
  | some v => if op < 52 then (match v with
      | .int x => some (.int x)
      | _ => none)
    else if op < 54 then (match v with
      | .long x => some (.long x)
      | _ => none)
    else (match v with
      | .ref x => some (.ref x)
      | _ => none)
def isl (v : Option Value) : Bool := match v with
  | some u => u.category == 2
  | none => false
def lclr (ls : Lv) (i : Nat) : Lv := match i with
  | 0 => ls
  | i + 1 => if isl (lget ls i) then ls.set i none else ls
def st1 (ls : Lv) (i : Nat) (v : Value) : Option Lv := if i < ls.length then some ((lclr ls i).set i (some v)) else none
def st2 (ls : Lv) (i : Nat) (v : Value) : Option Lv := if i + 1 < ls.length then some (((lclr ls i).set i (some v)).set (i + 1) none) else none
def stv (op b : Nat) (ls : Lv) (st : List Value) : Option (Lv × List Value) :=
  if op < 62 then (match st with
    | .int x :: st => (st1 ls b (.int x)).map (fun l => (l, st))
    | _ => none)
  else if op < 64 then (match st with
    | .long x :: st => (st2 ls b (.long x)).map (fun l => (l, st))
    | _ => none)
  else (match st with
    | .ref x :: st => (st1 ls b (.ref x)).map (fun l => (l, st))
    | _ => none)
/-- branches: taken or not, and the stack behind -/
def brc (op : Nat) (st : List Value) : Option (Bool × List Value) :=
  if op < 76 then (match st with
    | .int x :: st => some (if op = 70 then decide (x = 0) else if op = 71 then decide (x ≠ 0) else if op = 72 then decide (x < 0) else if op = 73 then decide (0 ≤ x) else if op = 74 then decide (0 < x) else decide (x ≤ 0), st)
    | _ => none)
  else (match st with
    | .int y :: .int x :: st => some (if op = 76 then decide (x = y) else if op = 77 then decide (x ≠ y) else if op = 78 then decide (x < y) else if op = 79 then decide (y ≤ x) else if op = 80 then decide (y < x) else decide (x ≤ y), st)
    | _ => none)
/-- a switch over a block of numbers from lo on -/
def swf (x : Int32) : Int32 → List Nat → Nat → Nat
  | _, [], d => d
  | lo, t :: ts, d => if x = lo then t else swf x (lo + 1) ts d
def lay : List Value → Lv
  | [] => []
  | v :: vs => if v.category = 2 then some v :: none :: lay vs else some v :: lay vs
def entry (vs : List Value) (n : Nat) : Lv := lay vs ++ List.replicate (n - (lay vs).length) none
abbrev Ins : Type := Nat × Int32 × Nat × Nat
/-- cut a list: the first n and the rest -/
def cut : Nat → List Value → Option (List Value × List Value)
  | 0, st => some ([], st)
  | _ + 1, [] => none
  | n + 1, v :: st => (cut n st).map (fun q => (q.1 ++ [v], q.2))
