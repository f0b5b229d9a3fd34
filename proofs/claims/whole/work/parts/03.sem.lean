/-! the pure machine: a memory of numbered cells, ints and longs as Int, references as (kind, length, number); one step; runs with fuel -/
abbrev Mem : Type := List ID × Nat × (Nat → Nat → Int) × (Nat → Nat → Option ID) × (Nat → Nat → Int)
abbrev Res : Type := Option AV × Mem
abbrev Lcs : Type := List (Option AV)
def mI (h : Mem) (i j : Nat) : Int := h.2.2.1 i j
def mR (h : Mem) (i j : Nat) : Option ID := h.2.2.2.1 i j
def mL (h : Mem) (i j : Nat) : Int := h.2.2.2.2 i j
def uI (h : Mem) (i j : Nat) (v : Int) : Mem := (h.1, h.2.1, (fun i' j' => if i' = i ∧ j' = j then v else h.2.2.1 i' j'), h.2.2.2.1, h.2.2.2.2)
def uR (h : Mem) (i j : Nat) (v : Option ID) : Mem := (h.1, h.2.1, h.2.2.1, (fun i' j' => if i' = i ∧ j' = j then v else h.2.2.2.1 i' j'), h.2.2.2.2)
def uL (h : Mem) (i j : Nat) (v : Int) : Mem := (h.1, h.2.1, h.2.2.1, h.2.2.2.1, (fun i' j' => if i' = i ∧ j' = j then v else h.2.2.2.2 i' j'))
/-- n places of the int array i, from d on, become those of the int array s, from e on -/
def uB (h : Mem) (s e i d n : Nat) : Mem := (h.1, h.2.1, (fun i' j' => if i' = i ∧ d ≤ j' ∧ j' < d + n then h.2.2.1 s (e + (j' - d)) else h.2.2.1 i' j'), h.2.2.2.1, h.2.2.2.2)
/-- a new cell of kind k, length n, with z slots -/
def nw (h : Mem) (k n z : Nat) : Mem := (h.1 ++ [(k, n, h.1.length)], h.2.1 + z, (fun i j => if i = h.1.length then 0 else h.2.2.1 i j), (fun i j => if i = h.1.length then none else h.2.2.2.1 i j), (fun i j => if i = h.1.length then 0 else h.2.2.2.2 i j))
/-- new int[n][m] -/
def nm (h : Mem) (n m : Nat) : Mem := (h.1 ++ ((17, n, h.1.length) :: (List.range n).map (fun i => (13, m, h.1.length + 1 + i))), h.2.1 + (n + n * m), (fun i j => if h.1.length ≤ i ∧ i < h.1.length + 1 + n then 0 else h.2.2.1 i j), (fun i j => if i = h.1.length then (if j < n then some (13, m, h.1.length + 1 + j) else none) else if h.1.length ≤ i ∧ i < h.1.length + 1 + n then none else h.2.2.2.1 i j), (fun i j => if h.1.length ≤ i ∧ i < h.1.length + 1 + n then 0 else h.2.2.2.2 i j))
def wr (z : Int) : Int := (z + 2147483648) % 4294967296 - 2147483648
def wl (z : Int) : Int := (z + 9223372036854775808) % 18446744073709551616 - 9223372036854775808
def iAnd (x y : Int) : Int := (Int32.ofInt x &&& Int32.ofInt y).toInt
def iOr (x y : Int) : Int := (Int32.ofInt x ||| Int32.ofInt y).toInt
def iShl (x y : Int) : Int := (Int32.ofInt x <<< (Int32.ofInt y &&& 31)).toInt
def iShr (x y : Int) : Int := (Int32.ofInt x >>> (Int32.ofInt y &&& 31)).toInt
def iUshr (x y : Int) : Int := ((Int32.ofInt x).toUInt32 >>> ((Int32.ofInt y).toUInt32 &&& Int32.toUInt32 31)).toInt32.toInt
def lAnd (x y : Int) : Int := (Int64.ofInt x &&& Int64.ofInt y).toInt
def lUshr (x y : Int) : Int := ((Int64.ofInt x).toUInt64 >>> ((Int32.ofInt y).toInt64.toUInt64 &&& Int64.toUInt64 63)).toInt64.toInt
def lCmp (x y : Int) : Int := if x < y then -1 else if x = y then 0 else 1
def tg (pc : Nat) (off : Int) : Nat := ((pc : Int) + off).toNat
def cat (v : AV) : Nat := match v with
  | .inr (.inl _) => 2
  | _ => 1
def kill (d : List Nat) (L : Lcs) : Lcs := d.foldl (fun L i => L.set i none) L
def clr (L : Lcs) (i : Nat) : Lcs := match i with
  | 0 => L
  | j + 1 => match L.getD j none with
    | some (.inr (.inl _)) => L.set j none
    | _ => L
def stL (L : Lcs) (i : Nat) (v : AV) : Lcs := match v with
  | .inr (.inl x) => ((clr L i).set i (some (.inr (.inl x)))).set (i + 1) none
  | v => (clr L i).set i (some v)
def ent (as : List AV) : Lcs := match as with
  | [] => []
  | .inr (.inl x) :: r => some (.inr (.inl x)) :: none :: ent r
  | v :: r => some v :: ent r
def entL (n : Nat) (as : List AV) : Lcs := ent as ++ List.replicate (n - (ent as).length) none
-- fields, arrays, calls: each goes on only if all is as it must be
def fI (kd sl : Nat) (a : ID) (h : Mem) (f : Int → Option Res) : Option Res := if a.1 = kd then f (mI h a.2.2 sl) else none
def fR (kd sl : Nat) (a : ID) (h : Mem) (f : Option ID → Option Res) : Option Res := if a.1 = kd then f (mR h a.2.2 sl) else none
def fL (kd sl : Nat) (a : ID) (h : Mem) (f : Int → Option Res) : Option Res := if a.1 = kd then f (mL h a.2.2 sl) else none
def fJ (l : List (Nat × Nat × Nat)) (a : ID) (h : Mem) (f : Option ID → Option Res) : Option Res := match l.lookup a.1 with
  | some (sl, 1) => f (mR h a.2.2 sl)
  | _ => none
def fK (l : List (Nat × Nat × Nat)) (a : ID) (h : Mem) (f : Int → Option Res) : Option Res := match l.lookup a.1 with
  | some (sl, 0) => f (mI h a.2.2 sl)
  | _ => none
def pI (kd sl : Nat) (a : ID) (v : Int) (h : Mem) (f : Mem → Option Res) : Option Res := if a.1 = kd then f (uI h a.2.2 sl v) else none
def pZ (kd sl : Nat) (a : ID) (v : Int) (h : Mem) (f : Mem → Option Res) : Option Res := if a.1 = kd ∧ (v = 0 ∨ v = 1) then f (uI h a.2.2 sl v) else none
def pR (kd sl : Nat) (a : ID) (v : Option ID) (h : Mem) (f : Mem → Option Res) : Option Res := if a.1 = kd then f (uR h a.2.2 sl v) else none
def pL (kd sl : Nat) (a : ID) (v : Int) (h : Mem) (f : Mem → Option Res) : Option Res := if a.1 = kd then f (uL h a.2.2 sl v) else none
/-- the constant row {2, 26, 0, 0, 12} -/
def xI (a : ID) (i : Int) (f : Int → Option Res) : Option Res := if a = (100, 5, 0) ∧ 0 ≤ i ∧ i < 5 then f (([2, 26, 0, 0, 12] : List Int).getD i.toNat 0) else none
def aI (a : ID) (i : Int) (h : Mem) (f : Int → Option Res) : Option Res := if a.1 = 13 ∧ 0 ≤ i ∧ i < a.2.1 then f (mI h a.2.2 i.toNat) else xI a i f
def aZ (a : ID) (i : Int) (h : Mem) (f : Int → Option Res) : Option Res := if a.1 = 14 ∧ 0 ≤ i ∧ i < a.2.1 then f (mI h a.2.2 i.toNat) else none
def aR (a : ID) (i : Int) (h : Mem) (f : Option ID → Option Res) : Option Res := if (a.1 = 15 ∨ a.1 = 16 ∨ a.1 = 17) ∧ 0 ≤ i ∧ i < a.2.1 then f (mR h a.2.2 i.toNat) else none
def bI (a : ID) (i v : Int) (h : Mem) (f : Mem → Option Res) : Option Res := if a.1 = 13 ∧ 0 ≤ i ∧ i < a.2.1 then f (uI h a.2.2 i.toNat v) else none
def bZ (a : ID) (i v : Int) (h : Mem) (f : Mem → Option Res) : Option Res := if a.1 = 14 ∧ 0 ≤ i ∧ i < a.2.1 ∧ (v = 0 ∨ v = 1) then f (uI h a.2.2 i.toNat v) else none
def sub15 (k : Nat) : Bool := k == 0 || k == 1 || k == 2 || k == 3 || k == 7 || k == 9
def bR (a : ID) (i : Int) (v : ID) (h : Mem) (f : Mem → Option Res) : Option Res := if ((a.1 = 15 ∧ sub15 v.1 = true) ∨ (a.1 = 16 ∧ v.1 = 6)) ∧ 0 ≤ i ∧ i < a.2.1 then f (uR h a.2.2 i.toNat (some v)) else none
def aN (a : ID) (f : Int → Option Res) : Option Res := if 13 ≤ a.1 ∧ a.1 < 18 ∧ a.2.1 ≤ 2147483647 then f a.2.1 else none
/-- a letter of ":,,;,," -/
def xC (a : ID) (i : Int) (f : Int → Option Res) : Option Res := if a = (101, 0, 0) ∧ 0 ≤ i ∧ i < 6 then f (([58, 44, 44, 59, 44, 44] : List Int).getD i.toNat 0) else none
def cV (o : Option Res) (f : Mem → Option Res) : Option Res := o.bind fun p => match p.1 with
  | none => f p.2
  | _ => none
def cI (o : Option Res) (f : Int → Mem → Option Res) : Option Res := o.bind fun p => match p.1 with
  | some (.inl x) => f x p.2
  | _ => none
def cL (o : Option Res) (f : Int → Mem → Option Res) : Option Res := o.bind fun p => match p.1 with
  | some (.inr (.inl x)) => f x p.2
  | _ => none
def cR (o : Option Res) (f : Option ID → Mem → Option Res) : Option Res := o.bind fun p => match p.1 with
  | some (.inr (.inr x)) => f x p.2
  | _ => none
def small (S : List AV) : Bool := Nat.ble ((S.map cat).sum) 8
/-- behind a call that answers as rt says -/
def aft (rt : Nat) (o : Option Res) (f : List AV → Mem → Option Res) : Option Res := match rt with
  | 0 => cV o (fun h => f [] h)
  | 2 => cL o (fun x h => f [vl x] h)
  | 3 => cR o (fun x h => f [vo x] h)
  | _ => cI o (fun x h => f [vi x] h)
def dsp (tgs : List (Nat × Nat)) (a : ID) (g : Nat → Option Res) : Option Res := match tgs with
  | [(kd, mj)] => if a.1 = kd then g mj else none
  | l => (l.lookup a.1).bind g
def cpy (a b : ID) (sp dp n : Int) (h : Mem) (f : Mem → Option Res) : Option Res := if a.1 = 13 ∧ b.1 = 13 ∧ 0 ≤ sp ∧ 0 ≤ dp ∧ 0 ≤ n ∧ sp + n ≤ b.2.1 ∧ dp + n ≤ a.2.1 then f (uB h b.2.2 sp.toNat a.2.2 dp.toNat n.toNat) else none
def invS (n rt : Nat) (tgs : List (Nat × Nat)) (call : Nat → List AV → Mem → Option Res) (S : List AV) (h : Mem) (f : List AV → Mem → Option Res) : Option Res := match tgs with
  | (_, mj) :: _ => if small (S.drop n) then aft rt (call mj (S.take n).reverse h) (fun v h => f (v ++ S.drop n) h) else none
  | _ => none
def invV (n rt : Nat) (tgs : List (Nat × Nat)) (call : Nat → List AV → Mem → Option Res) (S : List AV) (h : Mem) (f : List AV → Mem → Option Res) : Option Res := match S.drop n with
  | .inr (.inr o) :: S' => if small S' then o.bind fun a => dsp tgs a (fun mj => aft rt (call mj (vr a :: (S.take n).reverse) h) (fun v h => f (v ++ S') h)) else none
  | _ => none
def b2 (S : List AV) (g : Int → Int → List AV → Option Res) : Option Res := match S with
  | .inl y :: .inl x :: S => g x y S
  | _ => none
/-- the call of the link j of the class own: what is popped, which method it is, by its mode; op: 0 static, 1 virtual, 2 special -/
def inv (own j op : Nat) (call : Nat → List AV → Mem → Option Res) (S : List AV) (h : Mem) (f : List AV → Mem → Option Res) : Option Res := match (zC.getD own []).lookup j with
  | none => none
  | some (mode, n, rt, tgs) =>
    if Nat.ble n S.length then
    match op, mode with
    | 0, 0 => invS n rt tgs call S h f
    | 0, 10 => invS n rt tgs call S h f
    | 0, 11 => invS n rt tgs call S h f
    | 0, 21 => match S with
      | .inl n :: .inl dp :: .inr (.inr a) :: .inl sp :: .inr (.inr b) :: S => if small S then b.bind (fun b => a.bind (fun a => cpy a b sp dp n h (fun h => f S h))) else none
      | _ => none
    | 0, 24 => b2 S (fun x y S => if small S then f (vi (if x < y then y else x) :: S) h else none)
    | 0, 25 => b2 S (fun x y S => if small S then f (vi (if y < x then y else x) :: S) h else none)
    | 1, 1 => invV n rt tgs call S h f
    | 1, 12 => invV n rt tgs call S h f
    | 1, 22 => match S with
      | .inr (.inr o) :: S => if small S then o.bind (fun a => if a = (101, 0, 0) then f (vi 6 :: S) h else none) else none
      | _ => none
    | 1, 23 => match S with
      | .inl i :: .inr (.inr o) :: S => if small S then o.bind (fun a => xC a i (fun x => f (vi x :: S) h)) else none
      | _ => none
    | 2, 2 => invV n rt tgs call S h f
    | 2, 13 => invV n rt tgs call S h f
    | 2, 20 => match S with
      | .inr (.inr o) :: S => if small S then o.bind (fun _ => f S h) else none
      | _ => none
    | _, _ => none
    else none
def getF (own j : Nat) (a : ID) (h : Mem) (f : AV → Option Res) : Option Res := match (zF.getD own []).lookup j with
  | some [(kd, sl, 0)] => fI kd sl a h (fun x => f (vi x))
  | some [(kd, sl, 3)] => fI kd sl a h (fun x => f (vi x))
  | some [(kd, sl, 1)] => fR kd sl a h (fun x => f (vo x))
  | some [(kd, sl, 2)] => fL kd sl a h (fun x => f (vl x))
  | some ((kd, sl, 1) :: l) => fJ ((kd, sl, 1) :: l) a h (fun x => f (vo x))
  | some l => fK l a h (fun x => f (vi x))
  | none => none
def putF (own j : Nat) (a : ID) (v : AV) (h : Mem) (f : Mem → Option Res) : Option Res := match (zF.getD own []).lookup j, v with
  | some l, .inl x => (match l.lookup a.1 with
    | some (sl, 0) => f (uI h a.2.2 sl x)
    | some (sl, 3) => if x = 0 ∨ x = 1 then f (uI h a.2.2 sl x) else none
    | _ => none)
  | some l, .inr (.inl x) => (match l.lookup a.1 with
    | some (sl, 2) => f (uL h a.2.2 sl x)
    | _ => none)
  | some l, .inr (.inr x) => (match l.lookup a.1 with
    | some (sl, 1) => f (uR h a.2.2 sl x)
    | _ => none)
  | none, _ => none
abbrev Ko : Type := Nat → Lcs → List AV → Mem → Option Res
def ldI (L : Lcs) (j : Nat) (f : AV → Option Res) : Option Res := match L.getD j none with
  | some (.inl x) => f (.inl x)
  | _ => none
def ldL (L : Lcs) (j : Nat) (f : AV → Option Res) : Option Res := match L.getD j none with
  | some (.inr (.inl x)) => f (.inr (.inl x))
  | _ => none
def ldR (L : Lcs) (j : Nat) (f : AV → Option Res) : Option Res := match L.getD j none with
  | some (.inr (.inr x)) => f (.inr (.inr x))
  | _ => none
def b1 (S : List AV) (g : Int → List AV → Option Res) : Option Res := match S with
  | .inl x :: S => g x S
  | _ => none
def l2 (S : List AV) (g : Int → Int → List AV → Option Res) : Option Res := match S with
  | .inr (.inl y) :: .inr (.inl x) :: S => g x y S
  | _ => none
def r1 (S : List AV) (g : Option ID → List AV → Option Res) : Option Res := match S with
  | .inr (.inr o) :: S => g o S
  | _ => none
/-- an array of kind q and n places is made -/
def mka (q : Nat) (n : Int) (h : Mem) (f : ID → Mem → Option Res) : Option Res := if 0 ≤ n ∧ n ≤ 10000 then f (q, n.toNat, h.1.length) (nw h q n.toNat n.toNat) else none
def sw (lo hi d : Int) (offs : Array Int) (pc : Nat) (x : Int) (k : Nat → Option Res) : Option Res := if x < lo then k (tg pc d) else if hi < x then k (tg pc d) else match offs.toList[(x - lo).toNat]? with
  | some off => k (tg pc off)
  | none => none
def stepf (own ret nL : Nat) (k : Ko) (call : Nat → List AV → Mem → Option Res) (i : Instr) (pc : Nat) (L : Lcs) (S : List AV) (h : Mem) : Option Res :=
  match i with
  | .aconst_null => k (pc + 1) L (vo none :: S) h
  | .iconst n => k (pc + 1) L (vi n :: S) h
  | .bipush n => k (pc + 2) L (vi n :: S) h
  | .sipush n => k (pc + 3) L (vi n :: S) h
  | .lconst n => k (pc + 1) L (vl (n.val : Nat) :: S) h
  | .ldc j => ((zK.getD own []).lookup j).bind fun v => k (pc + 2) L (v :: S) h
  | .ldc_w j => ((zK.getD own []).lookup j).bind fun v => k (pc + 3) L (v :: S) h
  | .ldc2_w j => ((zK.getD own []).lookup j).bind fun v => k (pc + 3) L (v :: S) h
  | .iload j => ldI L j fun v => k (pc + 2) L (v :: S) h
  | .iload_n j => ldI L j.val fun v => k (pc + 1) L (v :: S) h
  | .lload j => ldL L j fun v => k (pc + 2) L (v :: S) h
  | .lload_n j => ldL L j.val fun v => k (pc + 1) L (v :: S) h
  | .aload j => ldR L j fun v => k (pc + 2) L (v :: S) h
  | .aload_n j => ldR L j.val fun v => k (pc + 1) L (v :: S) h
  | .istore j => if Nat.blt j nL then b1 S fun x S => k (pc + 2) (stL L j (vi x)) S h else none
  | .istore_n j => if Nat.blt j.val nL then b1 S fun x S => k (pc + 1) (stL L j.val (vi x)) S h else none
  | .lstore j => if Nat.blt (j + 1) nL then (match S with
    | .inr (.inl x) :: S => k (pc + 2) (stL L j (vl x)) S h
    | _ => none) else none
  | .lstore_n j => if Nat.blt (j.val + 1) nL then (match S with
    | .inr (.inl x) :: S => k (pc + 1) (stL L j.val (vl x)) S h
    | _ => none) else none
  | .astore j => if Nat.blt j nL then r1 S fun o S => k (pc + 2) (stL L j (vo o)) S h else none
  | .astore_n j => if Nat.blt j.val nL then r1 S fun o S => k (pc + 1) (stL L j.val (vo o)) S h else none
  | .iinc j n => if Nat.blt j nL then (match L.getD j none with
    | some (.inl x) => k (pc + 3) (stL L j (vi (wr (x + n)))) S h
    | _ => none) else none
  | .iadd => b2 S fun x y S => k (pc + 1) L (vi (wr (x + y)) :: S) h
  | .isub => b2 S fun x y S => k (pc + 1) L (vi (wr (x - y)) :: S) h
  | .imul => b2 S fun x y S => k (pc + 1) L (vi (wr (x * y)) :: S) h
  | .idiv => b2 S fun x y S => if y = 0 then none else k (pc + 1) L (vi (wr (x.tdiv y)) :: S) h
  | .irem => b2 S fun x y S => if y = 0 then none else k (pc + 1) L (vi (x.tmod y) :: S) h
  | .iand => b2 S fun x y S => k (pc + 1) L (vi (iAnd x y) :: S) h
  | .ior => b2 S fun x y S => k (pc + 1) L (vi (iOr x y) :: S) h
  | .ishl => b2 S fun x y S => k (pc + 1) L (vi (iShl x y) :: S) h
  | .ishr => b2 S fun x y S => k (pc + 1) L (vi (iShr x y) :: S) h
  | .iushr => b2 S fun x y S => k (pc + 1) L (vi (iUshr x y) :: S) h
  | .ladd => l2 S fun x y S => k (pc + 1) L (vl (wl (x + y)) :: S) h
  | .lmul => l2 S fun x y S => k (pc + 1) L (vl (wl (x * y)) :: S) h
  | .land => l2 S fun x y S => k (pc + 1) L (vl (lAnd x y) :: S) h
  | .lcmp => l2 S fun x y S => k (pc + 1) L (vi (lCmp x y) :: S) h
  | .lushr => (match S with
    | .inl y :: .inr (.inl x) :: S => k (pc + 1) L (vl (lUshr x y) :: S) h
    | _ => none)
  | .i2l => b1 S fun x S => k (pc + 1) L (vl x :: S) h
  | .l2i => (match S with
    | .inr (.inl x) :: S => k (pc + 1) L (vi (wr x) :: S) h
    | _ => none)
  | .dup => (match S with
    | v :: S => if Nat.beq (cat v) 1 then k (pc + 1) L (v :: v :: S) h else none
    | _ => none)
  | .pop => (match S with
    | v :: S => if Nat.beq (cat v) 1 then k (pc + 1) L S h else none
    | _ => none)
  | .dup_x1 => (match S with
    | v :: w :: S => if Nat.beq (cat v) 1 && Nat.beq (cat w) 1 then k (pc + 1) L (v :: w :: v :: S) h else none
    | _ => none)
  | .dup2 => (match S with
    | v :: w :: S => if Nat.beq (cat v) 1 && Nat.beq (cat w) 1 then k (pc + 1) L (v :: w :: v :: w :: S) h else none
    | _ => none)
  | .goto off => k (tg pc off) L S h
  | .ifCond .eq off => b1 S fun x S => if x = 0 then k (tg pc off) L S h else k (pc + 3) L S h
  | .ifCond .ne off => b1 S fun x S => if x = 0 then k (pc + 3) L S h else k (tg pc off) L S h
  | .ifCond .lt off => b1 S fun x S => if x < 0 then k (tg pc off) L S h else k (pc + 3) L S h
  | .ifCond .ge off => b1 S fun x S => if x < 0 then k (pc + 3) L S h else k (tg pc off) L S h
  | .ifCond .gt off => b1 S fun x S => if 0 < x then k (tg pc off) L S h else k (pc + 3) L S h
  | .ifCond .le off => b1 S fun x S => if 0 < x then k (pc + 3) L S h else k (tg pc off) L S h
  | .if_icmp .eq off => b2 S fun x y S => if x = y then k (tg pc off) L S h else k (pc + 3) L S h
  | .if_icmp .ne off => b2 S fun x y S => if x = y then k (pc + 3) L S h else k (tg pc off) L S h
  | .if_icmp .lt off => b2 S fun x y S => if x < y then k (tg pc off) L S h else k (pc + 3) L S h
  | .if_icmp .ge off => b2 S fun x y S => if x < y then k (pc + 3) L S h else k (tg pc off) L S h
  | .if_icmp .gt off => b2 S fun x y S => if y < x then k (tg pc off) L S h else k (pc + 3) L S h
  | .if_icmp .le off => b2 S fun x y S => if y < x then k (pc + 3) L S h else k (tg pc off) L S h
  | .ifnull off => r1 S fun o S => if o = none then k (tg pc off) L S h else k (pc + 3) L S h
  | .ifnonnull off => r1 S fun o S => if o = none then k (pc + 3) L S h else k (tg pc off) L S h
  | .tableswitch d lo hi offs => b1 S fun x S => sw lo hi d offs pc x (fun t => k t L S h)
  | .getfield j => r1 S fun o S => o.bind fun a => getF own j a h (fun v => k (pc + 3) L (v :: S) h)
  | .putfield j => (match S with
    | v :: .inr (.inr o) :: S => o.bind fun a => putF own j a v h (fun h => k (pc + 3) L S h)
    | _ => none)
  | .getstatic _ => k (pc + 3) L (vr (100, 5, 0) :: S) h
  | .iaload => (match S with
    | .inl i :: .inr (.inr o) :: S => o.bind fun a => aI a i h (fun x => k (pc + 1) L (vi x :: S) h)
    | _ => none)
  | .baload => (match S with
    | .inl i :: .inr (.inr o) :: S => o.bind fun a => aZ a i h (fun x => k (pc + 1) L (vi x :: S) h)
    | _ => none)
  | .aaload => (match S with
    | .inl i :: .inr (.inr o) :: S => o.bind fun a => aR a i h (fun x => k (pc + 1) L (vo x :: S) h)
    | _ => none)
  | .iastore => (match S with
    | .inl v :: .inl i :: .inr (.inr o) :: S => o.bind fun a => bI a i v h (fun h => k (pc + 1) L S h)
    | _ => none)
  | .bastore => (match S with
    | .inl v :: .inl i :: .inr (.inr o) :: S => o.bind fun a => bZ a i v h (fun h => k (pc + 1) L S h)
    | _ => none)
  | .aastore => (match S with
    | .inr (.inr w) :: .inl i :: .inr (.inr o) :: S => o.bind fun a => w.bind fun v => bR a i v h (fun h => k (pc + 1) L S h)
    | _ => none)
  | .arraylength => r1 S fun o S => o.bind fun a => aN a (fun n => k (pc + 1) L (vi n :: S) h)
  | .new j => ((zN.getD own []).lookup j).bind fun kd => k (pc + 3) L (vr (kd, 0, h.1.length) :: S) (nw h kd 0 ((zTy.getD kd []).length))
  | .newarray .int => b1 S fun n S => mka 13 n h (fun a h => k (pc + 2) L (vr a :: S) h)
  | .newarray .boolean => b1 S fun n S => mka 14 n h (fun a h => k (pc + 2) L (vr a :: S) h)
  | .anewarray j => ((zA.getD own []).lookup j).bind fun q => b1 S fun n S => mka q n h (fun a h => k (pc + 3) L (vr a :: S) h)
  | .multianewarray _ 2 => b2 S fun n m S => if 0 ≤ n ∧ n ≤ 100 ∧ 0 ≤ m ∧ m ≤ 100 then k (pc + 4) L (vr (17, n.toNat, h.1.length) :: S) (nm h n.toNat m.toNat) else none
  | .instanceof j => ((zI.getD own []).lookup j).bind fun ks => r1 S fun o S => o.bind fun a => if sub15 a.1 = true then k (pc + 3) L (vi (if ks.contains a.1 then 1 else 0) :: S) h else none
  | .invokestatic j => inv own j 0 call S h (fun S h => k (pc + 3) L S h)
  | .invokevirtual j => inv own j 1 call S h (fun S h => k (pc + 3) L S h)
  | .invokespecial j => inv own j 2 call S h (fun S h => k (pc + 3) L S h)
  | .ireturn => (match S with
    | [.inl x] => if ret = 1 then some (some (vi x), h) else if ret = 4 then (if x = 0 ∨ x = 1 then some (some (vi x), h) else none) else none
    | _ => none)
  | .lreturn => (match S with
    | [.inr (.inl x)] => if ret = 2 then some (some (vl x), h) else none
    | _ => none)
  | .areturn => (match S with
    | [.inr (.inr o)] => if ret = 3 then some (some (vo o), h) else none
    | _ => none)
  | .return_ => (match S with
    | [] => if ret = 0 then some (none, h) else none
    | _ => none)
  | _ => none
abbrev zmi (mi : Nat) : Nat × Nat × Nat × Nat × Nat := zMI.getD mi (0, 0, 0, 0, 0)
def fet (mi pc : Nat) : Option (Instr × Nat × Bool × List Nat) := (zCode.getD mi []).lookup pc
def run : Nat → Nat → Ko
  | 0, _, _, _, _, _ => none
  | n + 1, mi, pc, L, S, h => match fet mi pc with
    | none => none
    | some (i, _, _, d) => stepf (zmi mi).1 (zmi mi).2.2.1 (zmi mi).2.1 (run n mi) (fun mj as h => if Nat.ble (ent as).length (zmi mj).2.1 then run n mj 0 (entL (zmi mj).2.1 as) [] h else none) i pc (kill d L) S h
