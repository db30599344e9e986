/-! WHAT THE JAVA MEANS over the small machine: expressions, conditions, statements as functions of locals and heap -/
abbrev DI : Type := Lv → Mm → Option (Int32 × Mm)
abbrev DA : Type := Lv → Mm → Option (Option Nat × Mm)
abbrev DJ : Type := Lv → Mm → Option (Int64 × Mm)
abbrev DC : Type := Lv → Mm → Option (Bool × Mm)
abbrev DR : Type := Lv → Mm → Option (List Value × Mm)
abbrev DV : Type := Lv → Mm → Option (Option Value × Mm)
abbrev SR : Type := Lv × Mm × Nat × Option Value
abbrev DS : Type := Lv → Mm → Option SR
def asI (v : Value) : Option Int32 := match v with
  | .int x => some x
  | _ => none
def asA (v : Value) : Option (Option Nat) := match v with
  | .ref a => some (some a)
  | .null => some none
  | _ => none
def asJ (v : Value) : Option Int64 := match v with
  | .long x => some x
  | _ => none
def inb (i : Int32) (n : Nat) : Bool := decide (0 ≤ i.toInt) && decide (i.toInt < n)
def rdF (ci k a : Nat) (M : Mm) : Option Value := match M.2.2 a with
  | .inr (c, fs) => if c = ci then fs[k]? else none
  | .inl _ => none
def wrF (ci k a : Nat) (v : Value) (M : Mm) : Option Mm := match M.2.2 a with
  | .inr (c, fs) => if c = ci ∧ k < fs.length then some (setC M a (.inr (ci, fs.set k v))) else none
  | .inl _ => none
def rdI (t a : Nat) (i : Int32) (M : Mm) : Option Int32 := match M.2.2 a with
  | .inl (t', n, .inl f) => if t' = t ∧ inb i n = true then some (f i.toNatClampNeg) else none
  | _ => none
def rdJ (a : Nat) (i : Int32) (M : Mm) : Option Int64 := match M.2.2 a with
  | .inl (t', n, .inr (.inl f)) => if t' = 2 ∧ inb i n = true then some (f i.toNatClampNeg) else none
  | _ => none
def rdA (t a : Nat) (i : Int32) (M : Mm) : Option (Option Nat) := match M.2.2 a with
  | .inl (t', n, .inr (.inr (.inr (.inr f)))) => if t' = t ∧ inb i n = true then some (f i.toNatClampNeg) else none
  | _ => none
def wrI (t a : Nat) (i x : Int32) (M : Mm) : Option Mm := match M.2.2 a with
  | .inl (t', n, .inl f) => if t' = t ∧ inb i n = true ∧ 5 ≤ a then some (setC M a (.inl (t, n, .inl (upd f i.toNatClampNeg x)))) else none
  | _ => none
def isC (ci : Nat) (M : Mm) (b : Nat) : Bool := match M.2.2 b with
  | .inr (c, _) => c == ci
  | .inl _ => false
def isE (t : Nat) (M : Mm) (r : Option Nat) : Bool := match r with
  | none => true
  | some b => isC (atC t) M b
def wrA (t a : Nat) (i : Int32) (r : Option Nat) (M : Mm) : Option Mm := match M.2.2 a with
  | .inl (t', n, .inr (.inr (.inr (.inr f)))) => if t' = t ∧ inb i n = true ∧ 5 ≤ a ∧ isE t M r = true then some (setC M a (.inl (t, n, .inr (.inr (.inr (.inr (va_up f i.toNatClampNeg r))))))) else none
  | _ => none
def lenA (a : Nat) (M : Mm) : Option Nat := match M.2.2 a with
  | .inl (t, x) => if t ≤ 5 then some x.1 else none
  | .inr _ => none
-- ints
def cI (v : Int32) : DI := fun _ M => some (v, M)
def lI (i : Nat) : DI := fun L M => (L[i]?).bind fun o => o.bind fun v => (asI v).map fun x => (x, M)
def bI (op : Int32 → Int32 → Option Int32) (a b : DI) : DI := fun L M => (a L M).bind fun q => (b L q.2).bind fun r => (op q.1 r.1).map fun z => (z, r.2)
def oAdd (x y : Int32) : Option Int32 := some (x + y)
def oSub (x y : Int32) : Option Int32 := some (x - y)
def oMul (x y : Int32) : Option Int32 := some (x * y)
def oAnd (x y : Int32) : Option Int32 := some (x &&& y)
def oDiv (x y : Int32) : Option Int32 := if y = 0 then none else some (x / y)
def oRem (x y : Int32) : Option Int32 := if y = 0 then none else some (x - x / y * y)
def oMax (x y : Int32) : Option Int32 := some (if x < y then y else x)
def oMin (x y : Int32) : Option Int32 := some (if y < x then y else x)
def nI1 (a : DI) : DI := fun L M => (a L M).map fun q => (-q.1, q.2)
def fI (ci k : Nat) (e : DA) : DI := fun L M => (e L M).bind fun q => q.1.bind fun a => (rdF ci k a q.2).bind fun v => (asI v).map fun x => (x, q.2)
def gI (t : Nat) (e : DA) (i : DI) : DI := fun L M => (e L M).bind fun q => q.1.bind fun a => (i L q.2).bind fun r => (rdI t a r.1 r.2).map fun x => (x, r.2)
def nA (e : DA) : DI := fun L M => (e L M).bind fun q => q.1.bind fun a => (lenA a q.2).map fun n => (Int32.ofNat n, q.2)
def vI (e : DV) : DI := fun L M => (e L M).bind fun q => q.1.bind fun v => (asI v).map fun x => (x, q.2)
def tI (c : DC) (a b : DI) : DI := fun L M => (c L M).bind fun q => if q.1 = true then a L q.2 else b L q.2
def zI (c : DC) : DI := fun L M => (c L M).map fun q => (if q.1 = true then 1 else 0, q.2)
-- references
def cN : DA := fun _ M => some (none, M)
def cS (i : Nat) : DA := fun _ M => some (some i, M)
def lA (i : Nat) : DA := fun L M => (L[i]?).bind fun o => o.bind fun v => (asA v).map fun x => (x, M)
def fA (ci k : Nat) (e : DA) : DA := fun L M => (e L M).bind fun q => q.1.bind fun a => (rdF ci k a q.2).bind fun v => (asA v).map fun x => (x, q.2)
def gA (t : Nat) (e : DA) (i : DI) : DA := fun L M => (e L M).bind fun q => q.1.bind fun a => (i L q.2).bind fun r => (rdA t a r.1 r.2).map fun x => (x, r.2)
def vA (e : DV) : DA := fun L M => (e L M).bind fun q => q.1.bind fun v => (asA v).map fun x => (x, q.2)
def tA (c : DC) (a b : DA) : DA := fun L M => (c L M).bind fun q => if q.1 = true then a L q.2 else b L q.2
def newO (ci N : Nat) (fs : List Value) (f : FN) (ar : DR) : DA := fun L M => (ar L (newC M N (.inr (ci, fs)))).bind fun q => (f (.ref M.1 :: q.1) q.2).bind fun r => match r.1 with
  | none => some (some M.1, r.2)
  | some _ => none
def newI (t : Nat) (e : DI) : DA := fun L M => (e L M).bind fun q => if 0 ≤ q.1.toInt ∧ q.1.toInt ≤ 100000 then some (some q.2.1, newC q.2 q.1.toNatClampNeg (.inl (t, q.1.toNatClampNeg, .inl (fun _ => 0)))) else none
def newJ (e : DI) : DA := fun L M => (e L M).bind fun q => if 0 ≤ q.1.toInt ∧ q.1.toInt ≤ 100000 then some (some q.2.1, newC q.2 q.1.toNatClampNeg (.inl (2, q.1.toNatClampNeg, .inr (.inl (fun _ => 0))))) else none
def newA (t : Nat) (e : DI) : DA := fun L M => (e L M).bind fun q => if 0 ≤ q.1.toInt ∧ q.1.toInt ≤ 100000 then some (some q.2.1, newC q.2 q.1.toNatClampNeg (.inl (t, q.1.toNatClampNeg, .inr (.inr (.inr (.inr (fun _ => none))))))) else none
/-- an array written out: e, then each value in its place -/
def litI (e : DA) (vs : List (Int32 × Int32)) : DA := fun L M => (e L M).bind fun q => q.1.bind fun a => (vs.foldlM (fun M1 w => wrI 0 a w.1 w.2 M1) q.2).map fun M2 => (some a, M2)
def cloI (e : DA) : DA := fun L M => (e L M).bind fun q => q.1.bind fun a => match q.2.2.2 a with
  | .inl (0, n, .inl f) => if 5 ≤ a then some (some q.2.1, newC q.2 n (.inl (0, n, .inl f))) else none
  | _ => none
-- longs
def cJ (v : Int64) : DJ := fun _ M => some (v, M)
def lJ (i : Nat) : DJ := fun L M => (L[i]?).bind fun o => o.bind fun v => (asJ v).map fun x => (x, M)
def iJ (a : DI) : DJ := fun L M => (a L M).map fun q => (q.1.toInt64, q.2)
def bJ (op : Int64 → Int64 → Option Int64) (a b : DJ) : DJ := fun L M => (a L M).bind fun q => (b L q.2).bind fun r => (op q.1 r.1).map fun z => (z, r.2)
def jAdd (x y : Int64) : Option Int64 := some (x + y)
def jMul (x y : Int64) : Option Int64 := some (x * y)
def gJ (e : DA) (i : DI) : DJ := fun L M => (e L M).bind fun q => q.1.bind fun a => (i L q.2).bind fun r => (rdJ a r.1 r.2).map fun x => (x, r.2)
-- conditions
def kI (op : Int32 → Int32 → Bool) (a b : DI) : DC := fun L M => (a L M).bind fun q => (b L q.2).map fun r => (op q.1 r.1, r.2)
def oEq (x y : Int32) : Bool := decide (x = y)
def oNe (x y : Int32) : Bool := decide (¬ x = y)
def oLt (x y : Int32) : Bool := decide (x < y)
def oGe (x y : Int32) : Bool := decide (y ≤ x)
def oGt (x y : Int32) : Bool := decide (y < x)
def oLe (x y : Int32) : Bool := decide (x ≤ y)
def kJ (op : Int64 → Int64 → Bool) (a b : DJ) : DC := fun L M => (a L M).bind fun q => (b L q.2).map fun r => (op q.1 r.1, r.2)
def jLe (x y : Int64) : Bool := decide (x ≤ y)
def jGt (x y : Int64) : Bool := decide (y < x)
def jEq (x y : Int64) : Bool := decide (x = y)
def jNe (x y : Int64) : Bool := decide (¬ x = y)
def isN (e : DA) : DC := fun L M => (e L M).map fun q => (q.1.isNone, q.2)
def notN (e : DA) : DC := fun L M => (e L M).map fun q => (q.1.isSome, q.2)
def hiA (r : Option Nat) : Bool := match r with
  | none => true
  | some a => decide (5 ≤ a)
def eqA (a b : DA) : DC := fun L M => (a L M).bind fun q => (b L q.2).bind fun r => if hiA q.1 = true ∧ hiA r.1 = true then some (decide (q.1 = r.1), r.2) else none
def andC (a b : DC) : DC := fun L M => (a L M).bind fun q => if q.1 = true then b L q.2 else some (false, q.2)
def orC (a b : DC) : DC := fun L M => (a L M).bind fun q => if q.1 = true then some (true, q.2) else b L q.2
def notC (a : DC) : DC := fun L M => (a L M).map fun q => (!q.1, q.2)
-- arguments, calls
def r0 : DR := fun _ M => some ([], M)
def rI (e : DI) (r : DR) : DR := fun L M => (e L M).bind fun q => (r L q.2).map fun s => (.int q.1 :: s.1, s.2)
def rA (e : DA) (r : DR) : DR := fun L M => (e L M).bind fun q => (r L q.2).map fun s => (va_rf q.1 :: s.1, s.2)
def ivS (f : FN) (r : DR) : DV := fun L M => (r L M).bind fun q => f q.1 q.2
def ivV (ci : Nat) (f : FN) (r : DR) : DV := fun L M => (r L M).bind fun q => match q.1 with
  | .ref b :: _ => if isC ci q.2 b = true then f q.1 q.2 else none
  | _ => none
/-- the superclass's constructor: Object's -/
-- statements: 0 goes on, 1 break, 2 continue, 3 return
def nop : DS := fun L M => some (L, M, 0, none)
def seqS (a b : DS) : DS := fun L M => (a L M).bind fun q => if q.2.2.1 = 0 then b q.1 q.2.1 else some q
def setI (i : Nat) (e : DI) : DS := fun L M => (e L M).map fun q => (stL i (.int q.1) L, q.2, 0, none)
def setA (i : Nat) (e : DA) : DS := fun L M => (e L M).map fun q => (stL i (va_rf q.1) L, q.2, 0, none)
def setJ (i : Nat) (e : DJ) : DS := fun L M => (e L M).map fun q => (stJ i (.long q.1) L, q.2, 0, none)
def incI (i : Nat) (n : Int32) : DS := fun L M => (L[i]?).bind fun o => o.bind fun v => (asI v).map fun x => (stL i (.int (x + n)) L, M, 0, none)
def pfI (ci k : Nat) (o : DA) (e : DI) : DS := fun L M => (o L M).bind fun q => q.1.bind fun a => (e L q.2).bind fun r => (wrF ci k a (.int r.1) r.2).map fun M' => (L, M', 0, none)
def pfA (ci k : Nat) (o : DA) (e : DA) : DS := fun L M => (o L M).bind fun q => q.1.bind fun a => (e L q.2).bind fun r => (wrF ci k a (va_rf r.1) r.2).map fun M' => (L, M', 0, none)
def upF (ci k : Nat) (o : DA) (op : Int32 → Int32 → Option Int32) (e : DI) : DS := fun L M => (o L M).bind fun q => q.1.bind fun a => (rdF ci k a q.2).bind fun v => (asI v).bind fun x => (e L q.2).bind fun r => (op x r.1).bind fun z => (wrF ci k a (.int z) r.2).map fun M' => (L, M', 0, none)
def paI (t : Nat) (o : DA) (i e : DI) : DS := fun L M => (o L M).bind fun q => q.1.bind fun a => (i L q.2).bind fun j => (e L j.2).bind fun r => if t = 0 ∨ (t = 1 ∧ (r.1 = 0 ∨ r.1 = 1)) then (wrI t a j.1 r.1 r.2).map fun M' => (L, M', 0, none) else none
def paA (t : Nat) (o : DA) (i : DI) (e : DA) : DS := fun L M => (o L M).bind fun q => q.1.bind fun a => (i L q.2).bind fun j => (e L j.2).bind fun r => (wrA t a j.1 r.1 r.2).map fun M' => (L, M', 0, none)
def exV (e : DV) : DS := fun L M => (e L M).bind fun q => match q.1 with
  | none => some (L, q.2, 0, none)
  | some _ => none
def exP (e : DV) : DS := fun L M => (e L M).bind fun q => match q.1 with
  | none => none
  | some v => if v.category = 1 then some (L, q.2, 0, none) else none
def ifS (c : DC) (a b : DS) : DS := fun L M => (c L M).bind fun q => if q.1 = true then a L q.2 else b L q.2
def brk : DS := fun L M => some (L, M, 1, none)
def cnt : DS := fun L M => some (L, M, 2, none)
def retV : DS := fun L M => some (L, M, 3, none)
def retI (e : DI) : DS := fun L M => (e L M).map fun q => (L, q.2, 3, some (.int q.1))
def retZ (e : DI) : DS := fun L M => (e L M).bind fun q => if q.1 = 0 ∨ q.1 = 1 then some (L, q.2, 3, some (.int q.1)) else none
def retA (e : DA) : DS := fun L M => (e L M).map fun q => (L, q.2, 3, some (va_rf q.1))
def clr (k : Nat) (L : Lv) : Lv := L.take k ++ List.replicate (L.length - k) none
def scp (k : Nat) (a : DS) : DS := fun L M => (a L M).map fun q => (clr k q.1, q.2)
def thr : DS := fun _ _ => none
def whN (c : DC) (b u : DS) : Nat → DS
  | 0 => fun _ _ => none
  | n + 1 => fun L M => (c L M).bind fun q => if q.1 = true then
      (b L q.2).bind fun r => if r.2.2.1 = 1 then some (r.1, r.2.1, 0, none) else if r.2.2.1 = 3 then some r else
        (u r.1 r.2.1).bind fun s => if s.2.2.1 = 0 then whN c b u n s.1 s.2.1 else none
    else some (L, q.2, 0, none)
def big : Nat := 1000000
def whS (c : DC) (b u : DS) : DS := whN c b u big
def swS (e : DI) (lo : Int) (cs : List DS) (d : DS) : DS := fun L M => (e L M).bind fun q => ((if q.1.toInt < lo then d else (cs[(q.1.toInt - lo).toNat]?).getD d) L q.2).map fun r => if r.2.2.1 = 1 then (r.1, r.2.1, 0, none) else r
-- methods
def cat1 (as : List Value) : Bool := as.all fun v => v.category == 1
def mkL (n : Nat) (as : List Value) : Lv := as.map some ++ List.replicate (n - as.length) none
def runM (n : Nat) (b : DS) : FN := fun as M => if cat1 as = true ∧ as.length ≤ n then (b (mkL n as) M).bind fun q => if q.2.2.1 = 3 then some (q.2.2.2, q.2.1) else none else none
