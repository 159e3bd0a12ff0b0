/-! THE PURE MACHINE: bytecode over a list of cells. A reference is a place in the list; what lies outside (the script, the String constants) is a retAddr: 0 the script, k + 1 the constant k. -/
abbrev PE : Type := (Nat × vp_A) ⊕ (Nat × List Value)
abbrev PH : Type := List PE
abbrev RT : Type := PH × Option Value
abbrev LV : Type := List (Option Value)
/-- a method: its class's number, its name, its code, its locals, what it returns, where which locals are forgotten -/
abbrev MD : Type := Nat × MethodName × ByteArray × Nat × Option FieldType × List (Nat × List Nat)
/-- the tables: fields (own class, pool index: class, slot, kind, final), calls (kind, arguments without the receiver, callee), new (class, its fields), anewarray (kind of array), constants; the script and the Strings (contents) -/
abbrev PT : Type := (Nat → Nat → Option (Nat × Nat × Nat × Bool)) × (Nat → Nat → Option (Nat × Nat × MD)) × (Nat → Nat → Option (Nat × List Value)) × (Nat → Nat → Option Nat) × (Nat → Nat → Option Value) × (Nat → Option (Nat × (Nat → Int32)))
def mK (M : MD) (pc : Nat) (lv : LV) : LV := match M.2.2.2.2.2.lookup pc with
  | none => lv
  | some js => js.foldl (fun l j => l.set j none) lv
def dR : Value → Option Nat
  | .ref o => some o
  | _ => none
def gF (ph : PH) (o ci k : Nat) : Option Value := match ph[o]? with
  | some (.inr (c, fs)) => if c = ci then fs[k]? else none
  | _ => none
def pF (ph : PH) (o ci k : Nat) (v : Value) : Option PH := match ph[o]? with
  | some (.inr (c, fs)) => if c = ci ∧ k < fs.length then some (ph.set o (.inr (c, fs.set k v))) else none
  | _ => none
/-- what a field of a kind may hold: 0 int, 1 long, 2 a reference, 3 a boolean -/
def kV : Nat → Value → Bool
  | 0, .int _ => true
  | 1, .long _ => true
  | 2, .ref _ => true
  | 2, .null => true
  | 3, .int x => x == 0 || x == 1
  | _, _ => false
/-- arrays: kinds 0 int, 1 long, 2 byte, 3 boolean, 4.. of references -/
def aI (ph : PH) (o : Nat) (t : Nat) (i : Int32) : Option Int32 := match ph[o]? with
  | some (.inl (t', n, .inl f)) => if t' = t ∧ ¬ (i < 0 ∨ n ≤ i.toNatClampNeg) then some (f i.toNatClampNeg) else none
  | _ => none
def aL (ph : PH) (o : Nat) (i : Int32) : Option Int64 := match ph[o]? with
  | some (.inl (t', n, .inr (.inl f))) => if t' = 1 ∧ ¬ (i < 0 ∨ n ≤ i.toNatClampNeg) then some (f i.toNatClampNeg) else none
  | _ => none
def aR (ph : PH) (o : Nat) (i : Int32) : Option (Option Nat) := match ph[o]? with
  | some (.inl (t', n, .inr (.inr (.inr (.inr f))))) => if (t' = 4 ∨ t' = 5 ∨ t' = 6) ∧ ¬ (i < 0 ∨ n ≤ i.toNatClampNeg) then some (f i.toNatClampNeg) else none
  | _ => none
def uI (ph : PH) (o : Nat) (t : Nat) (i : Int32) (x : Int32) : Option PH := match ph[o]? with
  | some (.inl (t', n, .inl f)) => if t' = t ∧ ¬ (i < 0 ∨ n ≤ i.toNatClampNeg) then some (ph.set o (.inl (t', n, .inl (upd f i.toNatClampNeg x)))) else none
  | _ => none
def uL (ph : PH) (o : Nat) (i : Int32) (x : Int64) : Option PH := match ph[o]? with
  | some (.inl (t', n, .inr (.inl f))) => if t' = 1 ∧ ¬ (i < 0 ∨ n ≤ i.toNatClampNeg) then some (ph.set o (.inl (t', n, .inr (.inl (vp_updL f i.toNatClampNeg x))))) else none
  | _ => none
/-- the class whose objects an array of that kind holds -/
def tC : Nat → Nat
  | 4 => 4
  | 5 => 7
  | _ => 6
def isO (ph : PH) (v ci : Nat) : Bool := match ph[v]? with
  | some (.inr (c, _)) => c == ci
  | _ => false
def uR (ph : PH) (o : Nat) (i : Int32) (v : Nat) : Option PH := match ph[o]? with
  | some (.inl (t', n, .inr (.inr (.inr (.inr f))))) => if (t' = 4 ∨ t' = 5 ∨ t' = 6) ∧ ¬ (i < 0 ∨ n ≤ i.toNatClampNeg) ∧ isO ph v (tC t') = true then some (ph.set o (.inl (t', n, .inr (.inr (.inr (.inr (va_up f i.toNatClampNeg (some v)))))))) else none
  | _ => none
def aN (ph : PH) (o : Nat) : Option Int32 := match ph[o]? with
  | some (.inl (t', n, _)) => if t' < 7 then some (Int32.ofNat n) else none
  | _ => none
/-- is it an array of bytes (2) or of booleans (3)? -/
def bK (ph : PH) (o : Nat) : Option Nat := match ph[o]? with
  | some (.inl (t', _, .inl _)) => if t' = 2 ∨ t' = 3 then some t' else none
  | _ => none
def nwA (t : Nat) (n : Nat) : Option PE := match t with
  | 0 => some (.inl (0, n, .inl (fun _ => 0)))
  | 1 => some (.inl (1, n, .inr (.inl (fun _ => 0))))
  | 2 => some (.inl (2, n, .inl (fun _ => 0)))
  | 3 => some (.inl (3, n, .inl (fun _ => 0)))
  | _ => none
def nwR (t : Nat) (n : Nat) : PE := .inl (t, n, .inr (.inr (.inr (.inr (fun _ => none)))))
def cpy (ph : PH) (o : Nat) (sp : Int32) (d : Nat) (dp n : Int32) : Option PH := match ph[o]?, ph[d]? with
  | some (.inl (0, n0, .inl f)), some (.inl (0, n1, .inl g)) =>
    if ¬ sp < 0 ∧ ¬ dp < 0 ∧ ¬ n < 0 ∧ sp.toNatClampNeg + n.toNatClampNeg ≤ n0 ∧ dp.toNatClampNeg + n.toNatClampNeg ≤ n1 then
      some (ph.set d (.inl (0, n1, .inl (va_cpy f g sp.toNatClampNeg dp.toNatClampNeg n.toNatClampNeg)))) else none
  | _, _ => none
def s0 (lv : LV) : Nat → LV
  | 0 => lv
  | j + 1 => match lv[j]? with
    | some (some v) => if v.category = 2 then lv.set j none else lv
    | _ => lv
def s1 (lv : LV) (i : Nat) (v : Value) : LV := (s0 lv i).set i (some v)
def s2 (lv : LV) (i : Nat) (v : Value) : LV := ((s0 lv i).set i (some v)).set (i + 1) none
def gL (lv : LV) (i : Nat) : Option Value := match lv[i]? with
  | some (some v) => some v
  | _ => none
def tg (pc : Nat) (off : Int) : Option Nat := match (pc : Int) + off with
  | .ofNat t => some t
  | .negSucc _ => none
def eA : List Value → LV
  | [] => []
  | v :: vs => if v.category = 2 then some v :: none :: eA vs else some v :: eA vs
def ent (M : MD) (as : List Value) : LV := eA as ++ List.replicate (M.2.2.2.1 - (eA as).length) none
abbrev CF : Type := Nat × LV × List Value × PH
abbrev ON : Type := Option (RT ⊕ CF)
def nx (pc : Nat) (lv : LV) (st : List Value) (ph : PH) : ON := some (.inr (pc, lv, st, ph))
def catS (st : List Value) : Nat := (st.map fun v => v.category).sum
def iLd (lv : LV) (i : Nat) (pc : Nat) (st : List Value) (ph : PH) : ON := match gL lv i with
  | some (.int x) => nx pc lv (.int x :: st) ph
  | _ => none
def lLd (lv : LV) (i : Nat) (pc : Nat) (st : List Value) (ph : PH) : ON := match gL lv i with
  | some (.long x) => nx pc lv (.long x :: st) ph
  | _ => none
def aLd (lv : LV) (i : Nat) (pc : Nat) (st : List Value) (ph : PH) : ON := match gL lv i with
  | some (.ref x) => nx pc lv (.ref x :: st) ph
  | some .null => nx pc lv (.null :: st) ph
  | some (.retAddr x) => nx pc lv (.retAddr x :: st) ph
  | _ => none
def iSt (lv : LV) (i : Nat) (pc : Nat) (st : List Value) (ph : PH) : ON := match st with
  | .int x :: st => if i < lv.length then nx pc (s1 lv i (.int x)) st ph else none
  | _ => none
def lSt (lv : LV) (i : Nat) (pc : Nat) (st : List Value) (ph : PH) : ON := match st with
  | .long x :: st => if i + 1 < lv.length then nx pc (s2 lv i (.long x)) st ph else none
  | _ => none
def aSt (lv : LV) (i : Nat) (pc : Nat) (st : List Value) (ph : PH) : ON := match st with
  | .ref x :: st => if i < lv.length then nx pc (s1 lv i (.ref x)) st ph else none
  | .null :: st => if i < lv.length then nx pc (s1 lv i .null) st ph else none
  | .retAddr x :: st => if i < lv.length then nx pc (s1 lv i (.retAddr x)) st ph else none
  | _ => none
def bI (f : Int32 → Int32 → Int32) (pc : Nat) (lv : LV) (st : List Value) (ph : PH) : ON := match st with
  | .int y :: .int x :: st => nx pc lv (.int (f x y) :: st) ph
  | _ => none
def bL (f : Int64 → Int64 → Int64) (pc : Nat) (lv : LV) (st : List Value) (ph : PH) : ON := match st with
  | .long y :: .long x :: st => nx pc lv (.long (f x y) :: st) ph
  | _ => none
def bLI (f : Int64 → Int32 → Int64) (pc : Nat) (lv : LV) (st : List Value) (ph : PH) : ON := match st with
  | .int y :: .long x :: st => nx pc lv (.long (f x y) :: st) ph
  | _ => none
def brI (P : Int32 → Int32 → Bool) (off : Int) (pc : Nat) (lv : LV) (st : List Value) (ph : PH) : ON := match st with
  | .int y :: .int x :: st => match tg pc off with
    | some t => bif P x y then nx t lv st ph else nx (pc + 3) lv st ph
    | none => none
  | _ => none
def brZ (P : Int32 → Bool) (off : Int) (pc : Nat) (lv : LV) (st : List Value) (ph : PH) : ON := match st with
  | .int x :: st => match tg pc off with
    | some t => bif P x then nx t lv st ph else nx (pc + 3) lv st ph
    | none => none
  | _ => none
def iRem (x y : Int32) : Int32 := x - x / y * y
def lRem (x y : Int64) : Int64 := x - x / y * y
def iShl (x y : Int32) : Int32 := x <<< (y &&& 31)
def iShr (x y : Int32) : Int32 := x >>> (y &&& 31)
def iUshr (x y : Int32) : Int32 := (x.toUInt32 >>> (y.toUInt32 &&& Int32.toUInt32 31)).toInt32
def lShl (x : Int64) (y : Int32) : Int64 := x <<< (y.toInt64 &&& 63)
def lShr (x : Int64) (y : Int32) : Int64 := x >>> (y.toInt64 &&& 63)
def lUshr (x : Int64) (y : Int32) : Int64 := (x.toUInt64 >>> (y.toInt64.toUInt64 &&& Int64.toUInt64 63)).toInt64
/-- the String constant k: its bytes; charAt, length, indexOf -/
def oJ (Z : PT) (k : Nat) : Option (Nat × (Nat → Int32)) := Z.2.2.2.2.2 (k + 1)
def sIx (n : Nat) (f : Nat → Int32) (c : Int32) : Nat → Nat → Int32
  | 0, _ => -1
  | m + 1, i => if f i = c then Int32.ofNat i else sIx n f c m (i + 1)
def oCall (Z : PT) (cal : MD → List Value → PH → Option RT) (M : MD) (idx : Nat) (stat : Bool) (pc : Nat) (lv : LV) (st : List Value) (ph : PH) (ks : List Nat) : ON :=
  match Z.2.1 M.1 idx with
  | some (kd, n, M') =>
    if kd ∈ ks then
      if stat then
        if n ≤ st.length ∧ catS (st.drop n) ≤ 8 ∧ (eA (st.take n).reverse).length ≤ M'.2.2.2.1 then
          match cal M' (st.take n).reverse ph with
          | some (ph', r) => nx (pc + 3) lv (r.toList ++ st.drop n) ph'
          | none => none
        else none
      else match st.drop n with
        | .ref b :: rest =>
          if n ≤ st.length ∧ catS rest ≤ 8 ∧ (kd = 0 → isO ph b M'.1 = true) ∧ (eA (.ref b :: (st.take n).reverse)).length ≤ M'.2.2.2.1 then
            match cal M' (.ref b :: (st.take n).reverse) ph with
            | some (ph', r) => nx (pc + 3) lv (r.toList ++ rest) ph'
            | none => none
          else none
        | _ => none
    else none
  | none => none
def oSp (Z : PT) (cal : MD → List Value → PH → Option RT) (M : MD) (idx : Nat) (pc : Nat) (lv : LV) (st : List Value) (ph : PH) : ON :=
  match Z.2.1 M.1 idx, st with
  | some (9, _, _), .ref _ :: rest => if catS rest ≤ 8 then nx (pc + 3) lv rest ph else none
  | _, _ => oCall Z cal M idx false pc lv st ph [1, 2]
def oSt (Z : PT) (cal : MD → List Value → PH → Option RT) (M : MD) (idx : Nat) (pc : Nat) (lv : LV) (st : List Value) (ph : PH) : ON :=
  match Z.2.1 M.1 idx, st with
  | some (8, _, _), .int n :: .int dp :: .ref d :: .int sp :: .ref o :: rest => if catS rest ≤ 8 then match cpy ph o sp d dp n with
    | some ph' => nx (pc + 3) lv rest ph'
    | none => none else none
  | some (13, _, _), .int y :: .int x :: rest => if catS rest ≤ 8 then nx (pc + 3) lv (.int (if x < y then y else x) :: rest) ph else none
  | some (14, _, _), .int y :: .int x :: rest => if catS rest ≤ 8 then nx (pc + 3) lv (.int (if y < x then y else x) :: rest) ph else none
  | _, _ => oCall Z cal M idx true pc lv st ph [3, 4]
def oVi (Z : PT) (cal : MD → List Value → PH → Option RT) (M : MD) (idx : Nat) (pc : Nat) (lv : LV) (st : List Value) (ph : PH) : ON :=
  match Z.2.1 M.1 idx, st with
  | some (10, _, _), .retAddr (k + 1) :: rest => if catS rest ≤ 8 then match oJ Z k with
    | some (n, _) => nx (pc + 3) lv (.int (Int32.ofNat n) :: rest) ph
    | none => none else none
  | some (11, _, _), .int i :: .retAddr (k + 1) :: rest => if catS rest ≤ 8 then match oJ Z k with
    | some (n, f) => if ¬ (i < 0 ∨ n ≤ i.toNatClampNeg) then nx (pc + 3) lv (.int (f i.toNatClampNeg) :: rest) ph else none
    | none => none else none
  | some (12, _, _), .int x :: .retAddr (k + 1) :: rest => if catS rest ≤ 8 then match oJ Z k with
    | some (n, f) => if 0 ≤ x ∧ x < 256 then nx (pc + 3) lv (.int (sIx n f x n 0) :: rest) ph else none
    | none => none else none
  | _, _ => oCall Z cal M idx false pc lv st ph [0]
def oGet (Z : PT) (M : MD) (idx : Nat) (pc : Nat) (lv : LV) (st : List Value) (ph : PH) : ON := match st with
  | v :: st => match dR v, Z.1 M.1 idx with
    | some o, some (ci, k, kd, _) => match gF ph o ci k with
      | some w => if kV kd w then nx (pc + 3) lv (w :: st) ph else none
      | none => none
    | _, _ => none
  | _ => none
def oPut (Z : PT) (M : MD) (idx : Nat) (pc : Nat) (lv : LV) (st : List Value) (ph : PH) : ON := match st with
  | w :: v :: st => match dR v, Z.1 M.1 idx with
    | some o, some (ci, k, kd, fin) => if kV kd w = true ∧ (fin = true → M.2.1.name = "<init>" ∧ M.1 = ci) then match pF ph o ci k w with
      | some ph' => nx (pc + 3) lv st ph'
      | none => none else none
    | _, _ => none
  | _ => none
def oNewA (t : Nat) (bs : Nat) (pc : Nat) (lv : LV) (st : List Value) (ph : PH) : ON := match st with
  | .int n :: st => if ¬ n < 0 ∧ n.toNatClampNeg * bs ≤ 536870912 then match nwA t n.toNatClampNeg with
    | some e => nx (pc + 2) lv (.ref ph.length :: st) (ph ++ [e])
    | none => none else none
  | _ => none
def oSw (x : Int32) (dflt lo hi : Int) (offs : Array Int) : Option Int := if x.toInt < lo ∨ hi < x.toInt then some dflt else offs[(x.toInt - lo).toNat]?
/-- what a method may answer, by what it returns -/
def rOK : Option FieldType → Option Value → Bool
  | none, none => true
  | some .int, some (.int _) => true
  | some .boolean, some (.int x) => x == 0 || x == 1
  | some .long, some (.long _) => true
  | some (.object _), some (.ref _) => true
  | some (.object _), some .null => true
  | some (.object _), some (.retAddr _) => true
  | _, _ => false
def oRet (M : MD) (r : Option Value) (ph : PH) : ON := if rOK M.2.2.2.2.1 r then some (.inl (ph, r)) else none
def lk (b : Bool) (x : ON) : ON := match b with
  | true => x
  | false => none
def oneI (Z : PT) (cal : MD → List Value → PH → Option RT) (M : MD) (i : Instr) (len pc : Nat) (lv : LV) (st : List Value) (ph : PH) : ON :=
  match i with
  | .aconst_null => lk (len == 1) (nx (pc + 1) lv (.null :: st) ph)
  | .iconst n => lk (len == 1) (nx (pc + 1) lv (.int (Int32.ofInt n) :: st) ph)
  | .bipush n => lk (len == 2) (nx (pc + 2) lv (.int (Int8.ofInt n).toInt32 :: st) ph)
  | .sipush n => lk (len == 3) (nx (pc + 3) lv (.int (Int16.ofInt n).toInt32 :: st) ph)
  | .lconst n => lk (len == 1) (nx (pc + 1) lv (.long (Int64.ofNat (n : Nat)) :: st) ph)
  | .ldc ix => lk (len == 2) (match Z.2.2.2.2.1 M.1 ix with
    | some (.int v) => nx (pc + 2) lv (.int v :: st) ph
    | some (.retAddr k) => nx (pc + 2) lv (.retAddr k :: st) ph
    | _ => none)
  | .ldc_w ix => lk (len == 3) (match Z.2.2.2.2.1 M.1 ix with
    | some (.int v) => nx (pc + 3) lv (.int v :: st) ph
    | some (.retAddr k) => nx (pc + 3) lv (.retAddr k :: st) ph
    | _ => none)
  | .ldc2_w ix => lk (len == 3) (match Z.2.2.2.2.1 M.1 ix with
    | some (.long v) => nx (pc + 3) lv (.long v :: st) ph
    | _ => none)
  | .iload k => lk (len == 2) (iLd lv k (pc + 2) st ph)
  | .iload_n k => lk (len == 1) (iLd lv k (pc + 1) st ph)
  | .lload k => lk (len == 2) (lLd lv k (pc + 2) st ph)
  | .lload_n k => lk (len == 1) (lLd lv k (pc + 1) st ph)
  | .aload k => lk (len == 2) (aLd lv k (pc + 2) st ph)
  | .aload_n k => lk (len == 1) (aLd lv k (pc + 1) st ph)
  | .istore k => lk (len == 2) (iSt lv k (pc + 2) st ph)
  | .istore_n k => lk (len == 1) (iSt lv k (pc + 1) st ph)
  | .lstore k => lk (len == 2) (lSt lv k (pc + 2) st ph)
  | .lstore_n k => lk (len == 1) (lSt lv k (pc + 1) st ph)
  | .astore k => lk (len == 2) (aSt lv k (pc + 2) st ph)
  | .astore_n k => lk (len == 1) (aSt lv k (pc + 1) st ph)
  | .iinc k n => lk (len == 3) (match gL lv k with
    | some (.int x) => nx (pc + 3) (s1 lv k (.int (x + Int32.ofInt n))) st ph
    | _ => none)
  | .dup => lk (len == 1) (match st with
    | v :: st => if v.category = 1 then nx (pc + 1) lv (v :: v :: st) ph else none
    | _ => none)
  | .dup2 => lk (len == 1) (match st with
    | v :: w :: st => if v.category = 1 ∧ w.category = 1 then nx (pc + 1) lv (v :: w :: v :: w :: st) ph else none
    | _ => none)
  | .pop => lk (len == 1) (match st with
    | v :: st => if v.category = 1 then nx (pc + 1) lv st ph else none
    | _ => none)
  | .iadd => lk (len == 1) (bI (fun x y => x + y) (pc + 1) lv st ph)
  | .isub => lk (len == 1) (bI (fun x y => x - y) (pc + 1) lv st ph)
  | .imul => lk (len == 1) (bI (fun x y => x * y) (pc + 1) lv st ph)
  | .iand => lk (len == 1) (bI (fun x y => x &&& y) (pc + 1) lv st ph)
  | .ior => lk (len == 1) (bI (fun x y => x ||| y) (pc + 1) lv st ph)
  | .ixor => lk (len == 1) (bI (fun x y => x ^^^ y) (pc + 1) lv st ph)
  | .ishl => lk (len == 1) (bI iShl (pc + 1) lv st ph)
  | .ishr => lk (len == 1) (bI iShr (pc + 1) lv st ph)
  | .iushr => lk (len == 1) (bI iUshr (pc + 1) lv st ph)
  | .idiv => lk (len == 1) (match st with
    | .int y :: .int x :: st => if y = 0 then none else nx (pc + 1) lv (.int (x / y) :: st) ph
    | _ => none)
  | .irem => lk (len == 1) (match st with
    | .int y :: .int x :: st => if y = 0 then none else nx (pc + 1) lv (.int (iRem x y) :: st) ph
    | _ => none)
  | .ladd => lk (len == 1) (bL (fun x y => x + y) (pc + 1) lv st ph)
  | .lsub => lk (len == 1) (bL (fun x y => x - y) (pc + 1) lv st ph)
  | .lmul => lk (len == 1) (bL (fun x y => x * y) (pc + 1) lv st ph)
  | .land => lk (len == 1) (bL (fun x y => x &&& y) (pc + 1) lv st ph)
  | .lor => lk (len == 1) (bL (fun x y => x ||| y) (pc + 1) lv st ph)
  | .lxor => lk (len == 1) (bL (fun x y => x ^^^ y) (pc + 1) lv st ph)
  | .ldiv => lk (len == 1) (match st with
    | .long y :: .long x :: st => if y = 0 then none else nx (pc + 1) lv (.long (x / y) :: st) ph
    | _ => none)
  | .lrem => lk (len == 1) (match st with
    | .long y :: .long x :: st => if y = 0 then none else nx (pc + 1) lv (.long (lRem x y) :: st) ph
    | _ => none)
  | .lshl => lk (len == 1) (bLI lShl (pc + 1) lv st ph)
  | .lshr => lk (len == 1) (bLI lShr (pc + 1) lv st ph)
  | .lushr => lk (len == 1) (bLI lUshr (pc + 1) lv st ph)
  | .i2l => lk (len == 1) (match st with
    | .int x :: st => nx (pc + 1) lv (.long x.toInt64 :: st) ph
    | _ => none)
  | .l2i => lk (len == 1) (match st with
    | .long x :: st => nx (pc + 1) lv (.int x.toInt32 :: st) ph
    | _ => none)
  | .i2b => lk (len == 1) (match st with
    | .int x :: st => nx (pc + 1) lv (.int x.toInt8.toInt32 :: st) ph
    | _ => none)
  | .i2c => lk (len == 1) (match st with
    | .int x :: st => nx (pc + 1) lv (.int (x.toUInt32 % 65536).toInt32 :: st) ph
    | _ => none)
  | .lcmp => lk (len == 1) (match st with
    | .long y :: .long x :: st => nx (pc + 1) lv (.int (lg_cmp x y) :: st) ph
    | _ => none)
  | .goto off => lk (len == 3) (match tg pc off with
    | some t => nx t lv st ph
    | none => none)
  | .ifnull off => lk (len == 3) (match st, tg pc off with
    | .null :: st, some t => nx t lv st ph
    | .ref _ :: st, some _ => nx (pc + 3) lv st ph
    | _, _ => none)
  | .ifnonnull off => lk (len == 3) (match st, tg pc off with
    | .ref _ :: st, some t => nx t lv st ph
    | .null :: st, some _ => nx (pc + 3) lv st ph
    | _, _ => none)
  | .tableswitch dflt lo hi offs => match st with
    | .int x :: st => match oSw x dflt lo hi offs with
      | some off => match tg pc off with
        | some t => nx t lv st ph
        | none => none
      | none => none
    | _ => none
  | .lookupswitch dflt ps => match st with
    | .int x :: st => if (ps.toList.zip (ps.toList.drop 1)).all (fun (a, next) => a.1 < next.1) = true then match tg pc (Op.lookupswitch.offset ps.toList dflt x.toInt) with
      | some t => nx t lv st ph
      | none => none else none
    | _ => none
  | .getfield ix => lk (len == 3) (oGet Z M ix pc lv st ph)
  | .putfield ix => lk (len == 3) (oPut Z M ix pc lv st ph)
  | .iaload => lk (len == 1) (match st with
    | .int i :: .ref o :: st => match aI ph o 0 i with
      | some x => nx (pc + 1) lv (.int x :: st) ph
      | none => none
    | .int i :: .retAddr 0 :: st => match Z.2.2.2.2.2 0 with
      | some (n, f) => if ¬ (i < 0 ∨ n ≤ i.toNatClampNeg) then nx (pc + 1) lv (.int (f i.toNatClampNeg) :: st) ph else none
      | none => none
    | _ => none)
  | .baload => lk (len == 1) (match st with
    | .int i :: .ref o :: st => match bK ph o with
      | some t => match aI ph o t i with
        | some x => nx (pc + 1) lv (.int x :: st) ph
        | none => none
      | none => none
    | _ => none)
  | .laload => lk (len == 1) (match st with
    | .int i :: .ref o :: st => match aL ph o i with
      | some x => nx (pc + 1) lv (.long x :: st) ph
      | none => none
    | _ => none)
  | .aaload => lk (len == 1) (match st with
    | .int i :: .ref o :: st => match aR ph o i with
      | some r => nx (pc + 1) lv (va_rf r :: st) ph
      | none => none
    | _ => none)
  | .iastore => lk (len == 1) (match st with
    | .int x :: .int i :: .ref o :: st => match uI ph o 0 i x with
      | some ph' => nx (pc + 1) lv st ph'
      | none => none
    | _ => none)
  | .bastore => lk (len == 1) (match st with
    | .int x :: .int i :: .ref o :: st => match bK ph o with
      | some t => match uI ph o t i (vp_nar (if t = 2 then .byte else .boolean) x) with
        | some ph' => nx (pc + 1) lv st ph'
        | none => none
      | none => none
    | _ => none)
  | .lastore => lk (len == 1) (match st with
    | .long x :: .int i :: .ref o :: st => match uL ph o i x with
      | some ph' => nx (pc + 1) lv st ph'
      | none => none
    | _ => none)
  | .aastore => lk (len == 1) (match st with
    | .ref v :: .int i :: .ref o :: st => match uR ph o i v with
      | some ph' => nx (pc + 1) lv st ph'
      | none => none
    | _ => none)
  | .arraylength => lk (len == 1) (match st with
    | .ref o :: st => match aN ph o with
      | some n => nx (pc + 1) lv (.int n :: st) ph
      | none => none
    | .retAddr 0 :: st => match Z.2.2.2.2.2 0 with
      | some (n, _) => nx (pc + 1) lv (.int (Int32.ofNat n) :: st) ph
      | none => none
    | _ => none)
  | .anewarray ix => lk (len == 3) (match st, Z.2.2.2.1 M.1 ix with
    | .int n :: st, some t => if ¬ n < 0 ∧ n.toNatClampNeg * 4 ≤ 536870912 ∧ (t = 4 ∨ t = 5 ∨ t = 6) then nx (pc + 3) lv (.ref ph.length :: st) (ph ++ [nwR t n.toNatClampNeg]) else none
    | _, _ => none)
  | .new ix => lk (len == 3) (match Z.2.2.1 M.1 ix with
    | some (ci, fs) => nx (pc + 3) lv (.ref ph.length :: st) (ph ++ [.inr (ci, fs)])
    | none => none)
  | .invokespecial ix => lk (len == 3) (oSp Z cal M ix pc lv st ph)
  | .invokestatic ix => lk (len == 3) (oSt Z cal M ix pc lv st ph)
  | .invokevirtual ix => lk (len == 3) (oVi Z cal M ix pc lv st ph)
  | .ireturn => lk (len == 1) (match st with
    | [.int x] => oRet M (some (.int x)) ph
    | _ => none)
  | .lreturn => lk (len == 1) (match st with
    | [.long x] => oRet M (some (.long x)) ph
    | _ => none)
  | .areturn => lk (len == 1) (match st with
    | [.ref x] => oRet M (some (.ref x)) ph
    | [.null] => oRet M (some .null) ph
    | [.retAddr x] => oRet M (some (.retAddr x)) ph
    | _ => none)
  | .return_ => lk (len == 1) (match st with
    | [] => oRet M none ph
    | _ => none)
  | .if_icmp cd off => lk (len == 3) (match cd with
    | .eq => brI (fun x y => decide (x = y)) off pc lv st ph
    | .ne => brI (fun x y => decide (¬ x = y)) off pc lv st ph
    | .lt => brI (fun x y => decide (x < y)) off pc lv st ph
    | .ge => brI (fun x y => decide (y ≤ x)) off pc lv st ph
    | .gt => brI (fun x y => decide (y < x)) off pc lv st ph
    | .le => brI (fun x y => decide (x ≤ y)) off pc lv st ph)
  | .ifCond cd off => lk (len == 3) (match cd with
    | .eq => brZ (fun x => decide (x = 0)) off pc lv st ph
    | .ne => brZ (fun x => decide (¬ x = 0)) off pc lv st ph
    | .lt => brZ (fun x => decide (x < 0)) off pc lv st ph
    | .ge => brZ (fun x => decide (0 ≤ x)) off pc lv st ph
    | .gt => brZ (fun x => decide (0 < x)) off pc lv st ph
    | .le => brZ (fun x => decide (x ≤ 0)) off pc lv st ph)
  | .newarray at_ => lk (len == 2) (match at_ with
    | .int => oNewA 0 4 pc lv st ph
    | .long => oNewA 1 8 pc lv st ph
    | .byte => oNewA 2 1 pc lv st ph
    | .boolean => oNewA 3 1 pc lv st ph
    | _ => none)
  | _ => none
def one (Z : PT) (cal : MD → List Value → PH → Option RT) (M : MD) (pc : Nat) (lv : LV) (st : List Value) (ph : PH) : ON :=
  match decode M.2.2.1 pc with
  | .ok (i, len) => oneI Z cal M i len pc (mK M pc lv) st ph
  | .error _ => none
def ev (Z : PT) (cal : MD → List Value → PH → Option RT) (M : MD) : Nat → Nat → LV → List Value → PH → Option RT
  | 0, _, _, _, _ => none
  | n + 1, pc, lv, st, ph => match one Z cal M pc lv st ph with
    | none => none
    | some (.inl r) => some r
    | some (.inr (pc', lv', st', ph')) => ev Z cal M n pc' lv' st' ph'
theorem ev_more {Z : PT} {cal : MD → List Value → PH → Option RT} {M : MD} {r : RT} : ∀ (n : Nat) {pc : Nat} {lv : LV} {st : List Value} {ph : PH}, ev Z cal M n pc lv st ph = some r → ev Z cal M (n + 1) pc lv st ph = some r
  | 0, _, _, _, _, h => by cases h
  | n + 1, pc, lv, st, ph, h => by
    rw [ev] at h ⊢
    cases ho : one Z cal M pc lv st ph with
    | none => rw [ho] at h; cases h
    | some q => cases q with
      | inl r0 => rw [ho] at h; exact h
      | inr c => rw [ho] at h; exact ev_more n h
theorem ev_le {Z : PT} {cal : MD → List Value → PH → Option RT} {M : MD} {r : RT} {n k pc : Nat} {lv : LV} {st : List Value} {ph : PH} (h : ev Z cal M n pc lv st ph = some r) (hk : n ≤ k) : ev Z cal M k pc lv st ph = some r := by
  obtain ⟨j, rfl⟩ := Nat.exists_eq_add_of_le hk
  induction j with
  | zero => exact h
  | succ j ih => exact ev_more _ (ih (Nat.le_add_right n j))
/-- what comes of it, if anything -/
noncomputable def lim (F : Nat → Option RT) : Option RT := @dite (Option RT) (∃ n, (F n).isSome = true) (Classical.propDecidable _) (fun h => F h.choose) (fun _ => none)
theorem lim_of {F : Nat → Option RT} (hm : ∀ n r, F n = some r → F (n + 1) = some r) {n : Nat} {r : RT} (h : F n = some r) : lim F = some r := by
  have up : ∀ j n r, F n = some r → F (n + j) = some r := by
    intro j
    induction j with
    | zero => exact fun n r h => h
    | succ j ih => exact fun n r h => hm _ _ (ih n r h)
  have hx : ∃ n, (F n).isSome = true := ⟨n, by rw [h]; rfl⟩
  unfold lim
  rw [dif_pos hx]
  obtain ⟨r2, hr2⟩ := Option.isSome_iff_exists.mp hx.choose_spec
  rw [hr2]
  have a := up n _ _ hr2
  have b := up hx.choose _ _ h
  rw [Nat.add_comm] at b
  exact a.symm.trans b
theorem lim_ex {F : Nat → Option RT} {r : RT} (h : lim F = some r) : ∃ n, F n = some r := by
  unfold lim at h
  split at h
  · exact ⟨_, h⟩
  · cases h
noncomputable def RS (Z : PT) : Nat → MD → Nat → LV → List Value → PH → Option RT
  | 0, _, _, _, _, _ => none
  | d + 1, M, pc, lv, st, ph => lim (fun n => ev Z (fun M' as ph' => RS Z d M' 0 (ent M' as) [] ph') M n pc lv st ph)
noncomputable abbrev CL (Z : PT) (d : Nat) : MD → List Value → PH → Option RT := fun M as ph => RS Z d M 0 (ent M as) [] ph
theorem RS_ex {Z : PT} {d : Nat} {M : MD} {pc : Nat} {lv : LV} {st : List Value} {ph : PH} {r : RT} (h : RS Z (d + 1) M pc lv st ph = some r) : ∃ n, ev Z (CL Z d) M n pc lv st ph = some r := lim_ex h
/-- THE EQUATION -/
theorem RS_one (Z : PT) (d : Nat) (M : MD) (pc : Nat) (lv : LV) (st : List Value) (ph : PH) : RS Z (d + 1) M pc lv st ph = match one Z (CL Z d) M pc lv st ph with
    | none => none
    | some (.inl r) => some r
    | some (.inr (pc', lv', st', ph')) => RS Z (d + 1) M pc' lv' st' ph' := by
  have key : ∀ r, RS Z (d + 1) M pc lv st ph = some r ↔ (match one Z (CL Z d) M pc lv st ph with
    | none => none
    | some (.inl r) => some r
    | some (.inr (pc', lv', st', ph')) => RS Z (d + 1) M pc' lv' st' ph') = some r := by
    intro r
    constructor
    · intro h
      obtain ⟨n, hn⟩ := RS_ex h
      cases n with
      | zero => cases hn
      | succ n =>
        rw [ev] at hn
        cases ho : one Z (CL Z d) M pc lv st ph with
        | none => rw [ho] at hn; cases hn
        | some q => cases q with
          | inl r0 => rw [ho] at hn; exact hn
          | inr c => rw [ho] at hn; exact lim_of (fun n r h => ev_more n h) hn
    · intro h
      cases ho : one Z (CL Z d) M pc lv st ph with
      | none => rw [ho] at h; cases h
      | some q => cases q with
        | inl r0 =>
          rw [ho] at h
          refine lim_of (n := 1) (fun n r h => ev_more n h) ?_
          show ev Z (CL Z d) M 1 pc lv st ph = some r
          rw [ev, ho]
          exact h
        | inr c =>
          rw [ho] at h
          obtain ⟨n, hn⟩ := RS_ex h
          refine lim_of (n := n + 1) (fun n r h => ev_more n h) ?_
          show ev Z (CL Z d) M (n + 1) pc lv st ph = some r
          rw [ev, ho]
          exact hn
  generalize (match one Z (CL Z d) M pc lv st ph with
    | none => none
    | some (.inl r) => some r
    | some (.inr (pc', lv', st', ph')) => RS Z (d + 1) M pc' lv' st' ph') = y at key ⊢
  cases hx : RS Z (d + 1) M pc lv st ph with
  | none => cases y with
    | none => rfl
    | some r => rw [(key r).mpr rfl] at hx; cases hx
  | some r => exact ((key r).mp hx).symm
