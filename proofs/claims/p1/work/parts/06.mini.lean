/-! THE MINI MACHINE: the bytecode of the code tables over a heap of places (numbers), refs are places -/
abbrev mE : Type := (Nat × List Int32) ⊕ (Nat × List Value)
abbrev mH : Type := List mE
abbrev mL : Type := List (Option Value)
abbrev mS : Type := Nat × mL × List Value × mH × Nat × Nat
abbrev mO : Type := mS ⊕ (Option Value ⊕ (Nat × List Value × mS))
def mN (c : Nat) : Nat := match c with
  | 0 => 4
  | 1 => 12
  | 2 => 3
  | 3 => 11
  | 4 => 8
  | 5 => 29
  | _ => 0
def mT (c : Nat) : u_T := match c with
  | 0 => TX0
  | 1 => TX1
  | 2 => TX2
  | 3 => TX3
  | 4 => TX4
  | _ => TX5
def mty (c : Nat) : Nat → FieldType := match c with
  | 0 => tyX0
  | 1 => tyX1
  | 2 => tyX2
  | 3 => tyX3
  | 4 => tyX4
  | _ => tyX5
/-- an object just made -/
def mnew (c : Nat) : List Value := (List.range (mN c)).map (fun k => defaultValue (mty c k))
def mfetch (y pc : Nat) : Option mI := (mcode y).find? (fun e => Nat.beq e.1 pc)
def mgo (pc : Nat) (loc : mL) (stk : List Value) (hs : mH) (nc ns : Nat) : Option mO := some (.inl (pc, loc, stk, hs, nc, ns))
def mld (loc : mL) (i : Nat) : Option Value := match loc[i]? with
  | some (some v) => some v
  | _ => none
def mclr (loc : mL) (i : Nat) : mL := match i with
  | 0 => loc
  | j + 1 => match loc[j]? with
    | some (some v) => bif Nat.beq v.category 2 then loc.set j none else loc
    | _ => loc
def mst1 (loc : mL) (i : Nat) (v : Value) : mL := (mclr loc i).set i (some v)
def mst2 (loc : mL) (i : Nat) (v : Value) : mL := ((mclr loc i).set i (some v)).set (i + 1) none
def mjp (pc : Nat) (off : Int) (loc : mL) (stk : List Value) (hs : mH) (nc ns : Nat) : Option mO := match (pc : Int) + off with
  | .ofNat t => mgo t loc stk hs nc ns
  | .negSucc _ => none
def mtk (c : ClassFile.Cond) (x y : Int32) : Bool := match c with
  | .eq => decide (x = y)
  | .ne => decide (¬ x = y)
  | .lt => decide (x < y)
  | .ge => decide (y ≤ x)
  | .gt => decide (y < x)
  | .le => decide (x ≤ y)
def mI1 (f : Int32 → Value) (k : List Value → Option mO) (stk : List Value) : Option mO := match stk with
  | .int x :: st => k (f x :: st)
  | _ => none
def mI2 (f : Int32 → Int32 → Option Int32) (k : List Value → Option mO) (stk : List Value) : Option mO := match stk with
  | .int y :: .int x :: st => match f x y with
    | some v => k (.int v :: st)
    | none => none
  | _ => none
def mL2 (f : Int64 → Int64 → Option Value) (k : List Value → Option mO) (stk : List Value) : Option mO := match stk with
  | .long y :: .long x :: st => match f x y with
    | some v => k (v :: st)
    | none => none
  | _ => none
def midx (i : Int32) (n : Nat) : Option Nat := if i < 0 then none else bif Nat.blt i.toNatClampNeg n then some i.toNatClampNeg else none
def mak (t : ArrayType) : Option Nat := match t with
  | .int => some 0
  | .byte => some 1
  | .boolean => some 2
  | _ => none
def mfit (ty : FieldType) (v : Value) : Bool := match ty, v with
  | .int, .int _ => true
  | .boolean, .int x => decide (x = 0) || decide (x = 1)
  | .object _, .ref _ => true
  | .array _, .ref _ => true
  | _, _ => false
def mcat (st : List Value) : Nat := (st.map fun v => v.category).sum
def mpop (n : Nat) (stk : List Value) : Option (List Value × List Value) := bif Nat.ble n stk.length then some ((stk.take n).reverse, stk.drop n) else none
def mcpy (xs ys : List Int32) (sp dp n : Nat) : List Int32 := ys.take dp ++ ((xs.drop sp).take n ++ ys.drop (dp + n))
def mexec (y : Nat) (ins : Instr) (a b : Nat) (z : Int) (pc : Nat) (loc : mL) (stk : List Value) (hs : mH) (nc ns : Nat) : Option mO := match ins with
  | .iconst n => mgo (pc + 1) loc (.int (Int32.ofInt n) :: stk) hs nc ns
  | .bipush n => mgo (pc + 2) loc (.int (Int8.ofInt n).toInt32 :: stk) hs nc ns
  | .sipush n => mgo (pc + 3) loc (.int (Int16.ofInt n).toInt32 :: stk) hs nc ns
  | .lconst n => mgo (pc + 1) loc (.long (Int64.ofNat (n : Nat)) :: stk) hs nc ns
  | .ldc _ => bif Nat.beq a 0 then mgo (pc + 2) loc (.int (Int32.ofInt z) :: stk) hs nc ns else none
  | .ldc2_w _ => mgo (pc + 3) loc (.long (Int64.ofInt z) :: stk) hs nc ns
  | .iload_n k => match mld loc k with
    | some (.int x) => mgo (pc + 1) loc (.int x :: stk) hs nc ns
    | _ => none
  | .iload k => match mld loc k with
    | some (.int x) => mgo (pc + 2) loc (.int x :: stk) hs nc ns
    | _ => none
  | .lload_n k => match mld loc k with
    | some (.long x) => mgo (pc + 1) loc (.long x :: stk) hs nc ns
    | _ => none
  | .lload k => match mld loc k with
    | some (.long x) => mgo (pc + 2) loc (.long x :: stk) hs nc ns
    | _ => none
  | .aload_n k => match mld loc k with
    | some (.ref x) => mgo (pc + 1) loc (.ref x :: stk) hs nc ns
    | _ => none
  | .aload k => match mld loc k with
    | some (.ref x) => mgo (pc + 2) loc (.ref x :: stk) hs nc ns
    | _ => none
  | .istore_n k => match stk with
    | .int x :: st => bif Nat.blt k (mmaxL y) then mgo (pc + 1) (mst1 loc k (.int x)) st hs nc ns else none
    | _ => none
  | .istore k => match stk with
    | .int x :: st => bif Nat.blt k (mmaxL y) then mgo (pc + 2) (mst1 loc k (.int x)) st hs nc ns else none
    | _ => none
  | .lstore_n k => match stk with
    | .long x :: st => bif Nat.blt (k + 1) (mmaxL y) then mgo (pc + 1) (mst2 loc k (.long x)) st hs nc ns else none
    | _ => none
  | .lstore k => match stk with
    | .long x :: st => bif Nat.blt (k + 1) (mmaxL y) then mgo (pc + 2) (mst2 loc k (.long x)) st hs nc ns else none
    | _ => none
  | .astore_n k => match stk with
    | .ref x :: st => bif Nat.blt k (mmaxL y) then mgo (pc + 1) (mst1 loc k (.ref x)) st hs nc ns else none
    | _ => none
  | .astore k => match stk with
    | .ref x :: st => bif Nat.blt k (mmaxL y) then mgo (pc + 2) (mst1 loc k (.ref x)) st hs nc ns else none
    | _ => none
  | .iinc k n => match mld loc k with
    | some (.int x) => mgo (pc + 3) (mst1 loc k (.int (x + Int32.ofInt n))) stk hs nc ns
    | _ => none
  | .iadd => mI2 (fun x y => some (x + y)) (fun st => mgo (pc + 1) loc st hs nc ns) stk
  | .isub => mI2 (fun x y => some (x - y)) (fun st => mgo (pc + 1) loc st hs nc ns) stk
  | .imul => mI2 (fun x y => some (x * y)) (fun st => mgo (pc + 1) loc st hs nc ns) stk
  | .iand => mI2 (fun x y => some (x &&& y)) (fun st => mgo (pc + 1) loc st hs nc ns) stk
  | .ior => mI2 (fun x y => some (x ||| y)) (fun st => mgo (pc + 1) loc st hs nc ns) stk
  | .ixor => mI2 (fun x y => some (x ^^^ y)) (fun st => mgo (pc + 1) loc st hs nc ns) stk
  | .idiv => mI2 (fun x y => if y = 0 then none else some (x / y)) (fun st => mgo (pc + 1) loc st hs nc ns) stk
  | .irem => mI2 (fun x y => if y = 0 then none else some (x - x / y * y)) (fun st => mgo (pc + 1) loc st hs nc ns) stk
  | .ishl => mI2 (fun x y => some (x <<< (y &&& 31))) (fun st => mgo (pc + 1) loc st hs nc ns) stk
  | .ishr => mI2 (fun x y => some (x >>> (y &&& 31))) (fun st => mgo (pc + 1) loc st hs nc ns) stk
  | .iushr => mI2 (fun x y => some ((x.toUInt32 >>> (y.toUInt32 &&& Int32.toUInt32 31)).toInt32)) (fun st => mgo (pc + 1) loc st hs nc ns) stk
  | .ineg => mI1 (fun x => .int (-x)) (fun st => mgo (pc + 1) loc st hs nc ns) stk
  | .i2l => mI1 (fun x => .long x.toInt64) (fun st => mgo (pc + 1) loc st hs nc ns) stk
  | .i2b => mI1 (fun x => .int x.toInt8.toInt32) (fun st => mgo (pc + 1) loc st hs nc ns) stk
  | .i2s => mI1 (fun x => .int x.toInt16.toInt32) (fun st => mgo (pc + 1) loc st hs nc ns) stk
  | .i2c => mI1 (fun x => .int (x.toUInt32 % 65536).toInt32) (fun st => mgo (pc + 1) loc st hs nc ns) stk
  | .ladd => mL2 (fun x y => some (.long (x + y))) (fun st => mgo (pc + 1) loc st hs nc ns) stk
  | .lmul => mL2 (fun x y => some (.long (x * y))) (fun st => mgo (pc + 1) loc st hs nc ns) stk
  | .ldiv => mL2 (fun x y => if y = 0 then none else some (.long (x / y))) (fun st => mgo (pc + 1) loc st hs nc ns) stk
  | .lrem => mL2 (fun x y => if y = 0 then none else some (.long (x - x / y * y))) (fun st => mgo (pc + 1) loc st hs nc ns) stk
  | .lcmp => mL2 (fun x y => some (.int (lg_cmp x y))) (fun st => mgo (pc + 1) loc st hs nc ns) stk
  | .dup => match stk with
    | v :: st => bif Nat.beq v.category 1 then mgo (pc + 1) loc (v :: v :: st) hs nc ns else none
    | _ => none
  | .pop => match stk with
    | v :: st => bif Nat.beq v.category 1 then mgo (pc + 1) loc st hs nc ns else none
    | _ => none
  | .dup2 => match stk with
    | v :: w :: st => bif Nat.beq v.category 1 && Nat.beq w.category 1 then mgo (pc + 1) loc (v :: w :: v :: w :: st) hs nc ns else none
    | _ => none
  | .goto off => mjp pc off loc stk hs nc ns
  | .ifCond cd off => match stk with
    | .int x :: st => bif mtk cd x 0 then mjp pc off loc st hs nc ns else mgo (pc + 3) loc st hs nc ns
    | _ => none
  | .if_icmp cd off => match stk with
    | .int y :: .int x :: st => bif mtk cd x y then mjp pc off loc st hs nc ns else mgo (pc + 3) loc st hs nc ns
    | _ => none
  | .tableswitch d lo hi offs => match stk with
    | .int x :: st => if x.toInt < lo ∨ hi < x.toInt then mjp pc d loc st hs nc ns else match offs[(x.toInt - lo).toNat]? with
      | some off => mjp pc off loc st hs nc ns
      | none => none
    | _ => none
  | .getfield _ => match stk with
    | .ref r :: st => match hs[r]? with
      | some (.inr (c, vs)) => bif Nat.beq c a then (match vs[b]? with
        | some v => mgo (pc + 3) loc (v :: st) hs nc ns
        | none => none) else none
      | _ => none
    | _ => none
  | .putfield _ => match stk with
    | v :: .ref r :: st => match hs[r]? with
      | some (.inr (c, vs)) => bif Nat.beq c a && (Nat.blt b vs.length && mfit (mty a b) v) then mgo (pc + 3) loc st (hs.set r (.inr (c, vs.set b v))) nc ns else none
      | _ => none
    | _ => none
  | .iaload => match stk with
    | .int i :: .ref r :: st => match hs[r]? with
      | some (.inl (0, xs)) => (match midx i xs.length with
        | some j => mgo (pc + 1) loc (.int (xs.getD j 0) :: st) hs nc ns
        | none => none)
      | _ => none
    | _ => none
  | .baload => match stk with
    | .int i :: .ref r :: st => match hs[r]? with
      | some (.inl (k, xs)) => bif Nat.beq k 1 || Nat.beq k 2 then (match midx i xs.length with
        | some j => mgo (pc + 1) loc (.int (xs.getD j 0) :: st) hs nc ns
        | none => none) else none
      | _ => none
    | _ => none
  | .iastore => match stk with
    | .int x :: .int i :: .ref r :: st => match hs[r]? with
      | some (.inl (0, xs)) => (match midx i xs.length with
        | some j => mgo (pc + 1) loc st (hs.set r (.inl (0, xs.set j x))) nc ns
        | none => none)
      | _ => none
    | _ => none
  | .bastore => match stk with
    | .int x :: .int i :: .ref r :: st => match hs[r]? with
      | some (.inl (1, xs)) => (match midx i xs.length with
        | some j => mgo (pc + 1) loc st (hs.set r (.inl (1, xs.set j (vp_nar .byte x)))) nc ns
        | none => none)
      | some (.inl (2, xs)) => (match midx i xs.length with
        | some j => mgo (pc + 1) loc st (hs.set r (.inl (2, xs.set j (vp_nar .boolean x)))) nc ns
        | none => none)
      | _ => none
    | _ => none
  | .aaload => match stk with
    | .int i :: .ref r :: st => match hs[r]? with
      | some (.inr (c, vs)) => bif Nat.beq c 7 || Nat.beq c 8 then (match midx i vs.length with
        | some j => (match vs[j]? with
          | some (.ref v) => mgo (pc + 1) loc (.ref v :: st) hs nc ns
          | _ => none)
        | none => none) else none
      | _ => none
    | _ => none
  | .aastore => match stk with
    | .ref v :: .int i :: .ref r :: st => match hs[r]? with
      | some (.inr (c, vs)) => (match hs[v]? with
        | some (.inr (cv, _)) => bif (Nat.beq c 7 && Nat.beq cv 1) || (Nat.beq c 8 && Nat.beq cv 2) then (match midx i vs.length with
          | some j => mgo (pc + 1) loc st (hs.set r (.inr (c, vs.set j (.ref v)))) nc ns
          | none => none) else none
        | _ => none)
      | _ => none
    | _ => none
  | .arraylength => match stk with
    | .ref r :: st => match hs[r]? with
      | some (.inl (k, xs)) => bif Nat.ble k 2 then mgo (pc + 1) loc (.int (Int32.ofNat xs.length) :: st) hs nc ns else none
      | _ => none
    | _ => none
  | .new _ => bif Nat.blt a 6 then mgo (pc + 3) loc (.ref hs.length :: stk) (hs ++ [.inr (a, mnew a)]) (nc + 1) (ns + mN a) else none
  | .newarray t => match stk with
    | .int n :: st => (match mak t with
      | some k => if n < 0 then none else bif Nat.ble n.toNatClampNeg 10000 then mgo (pc + 2) loc (.ref hs.length :: st) (hs ++ [.inl (k, List.replicate n.toNatClampNeg 0)]) (nc + 1) (ns + n.toNatClampNeg) else none
      | none => none)
    | _ => none
  | .anewarray _ => match stk with
    | .int n :: st => bif Nat.beq a 1 || Nat.beq a 2 then (if n < 0 then none else bif Nat.ble n.toNatClampNeg 10000 then mgo (pc + 3) loc (.ref hs.length :: st) (hs ++ [.inr (6 + a, List.replicate n.toNatClampNeg .null)]) (nc + 1) (ns + n.toNatClampNeg) else none) else none
    | _ => none
  | .invokevirtual _ => match mpop (marg a) stk with
    | some (as, .ref r :: rest) => (match hs[r]? with
      | some (.inr (c, _)) => bif Nat.beq c (mown a) && (Nat.blt c 6 && Nat.ble (mcat rest) 8) then some (.inr (.inr (a, .ref r :: as, (pc + 3, loc, rest, hs, nc, ns)))) else none
      | _ => none)
    | _ => none
  | .invokestatic _ => match b with
    | 4 => (match stk with
      | .int n :: .int dp :: .ref d :: .int sp :: .ref r :: st => (match hs[r]?, hs[d]? with
        | some (.inl (0, xs)), some (.inl (0, ys)) => if sp < 0 ∨ dp < 0 ∨ n < 0 then none else
          bif Nat.ble (sp.toNatClampNeg + n.toNatClampNeg) xs.length && (Nat.ble (dp.toNatClampNeg + n.toNatClampNeg) ys.length && Nat.ble (mcat st) 8) then mgo (pc + 3) loc st (hs.set d (.inl (0, mcpy xs ys sp.toNatClampNeg dp.toNatClampNeg n.toNatClampNeg))) nc ns else none
        | _, _ => none)
      | _ => none)
    | 5 => (match stk with
      | .int v :: .int u :: st => bif Nat.ble (mcat st) 8 then mgo (pc + 3) loc (.int (if v < u then v else u) :: st) hs nc ns else none
      | _ => none)
    | 6 => (match stk with
      | .int v :: .int u :: st => bif Nat.ble (mcat st) 8 then mgo (pc + 3) loc (.int (if u < v then v else u) :: st) hs nc ns else none
      | _ => none)
    | 7 => (match stk with
      | .long v :: .long u :: st => bif Nat.ble (mcat st) 8 then mgo (pc + 3) loc (.long (if v < u then u else v) :: st) hs nc ns else none
      | _ => none)
    | _ => match mpop (marg a) stk with
      | some (as, rest) => bif Nat.ble (mcat rest) 8 then some (.inr (.inr (a, as, (pc + 3, loc, rest, hs, nc, ns)))) else none
      | none => none
  | .invokespecial _ => match b with
    | 2 => (match stk with
      | .ref _ :: st => bif Nat.ble (mcat st) 8 then mgo (pc + 3) loc st hs nc ns else none
      | _ => none)
    | _ => match mpop (marg a) stk with
      | some (as, .ref r :: rest) => bif Nat.ble (mcat rest) 8 then some (.inr (.inr (a, .ref r :: as, (pc + 3, loc, rest, hs, nc, ns)))) else none
      | _ => none
  | .return_ => match stk with
    | [] => some (.inr (.inl none))
    | _ => none
  | .ireturn => match stk with
    | [.int x] => match mret y with
      | some .int => some (.inr (.inl (some (.int x))))
      | some .boolean => bif decide (x = 0) || decide (x = 1) then some (.inr (.inl (some (.int x)))) else none
      | _ => none
    | _ => none
  | .lreturn => match stk with
    | [.long x] => some (.inr (.inl (some (.long x))))
    | _ => none
  | .areturn => match stk with
    | [.ref x] => some (.inr (.inl (some (.ref x))))
    | _ => none
  | _ => none
def mstep (y : Nat) (q : mS) : Option mO := match mfetch y q.1 with
  | none => none
  | some i => mexec y i.2.1 i.2.2.2.1 i.2.2.2.2.1 i.2.2.2.2.2 q.1 q.2.1 q.2.2.1 q.2.2.2.1 q.2.2.2.2.1 q.2.2.2.2.2
def margs : List Value → mL
  | [] => []
  | v :: vs => bif Nat.beq v.category 2 then some v :: none :: margs vs else some v :: margs vs
def mentry (y : Nat) (as : List Value) (hs : mH) : mS := (0, (margs as ++ List.replicate (mmaxL y - (margs as).length) none), [], hs, 0, 0)
def mrun : Nat → Nat → Nat → mS → Option (Option Value × mH × Nat × Nat)
  | 0, _, _, _ => none
  | n + 1, d, y, q => match mstep y q with
    | none => none
    | some (.inl q') => mrun n d y q'
    | some (.inr (.inl v)) => some (v, q.2.2.2.1, q.2.2.2.2.1, q.2.2.2.2.2)
    | some (.inr (.inr (y', as, q'))) => match d with
      | 0 => none
      | d' + 1 => match mrun n d' y' (mentry y' as q'.2.2.2.1) with
        | none => none
        | some (v, hs', c', s') => mrun n (d' + 1) y (q'.1, q'.2.1, v.toList ++ q'.2.2.1, hs', q'.2.2.2.2.1 + c', q'.2.2.2.2.2 + s')
