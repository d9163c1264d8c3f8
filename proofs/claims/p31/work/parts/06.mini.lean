section Q06
/-! THE MINI MACHINE: the bytecode of the code tables over a heap of places (numbers), refs are places -/
abbrev mE : Type := (Nat × List Int32) ⊕ (Nat × List Value)
abbrev mH : Type := List mE
abbrev mL : Type := List (Option Value)
abbrev mS : Type := Nat × mL × List Value × mH × Nat × Nat
abbrev mO : Type := mS ⊕ (Option Value ⊕ (Nat × List Value × mS))
def mN (c : Nat) : Nat := match c with
  | 0 => 4
  | 1 => 12
  | 2 => 3
  | 3 => 11
  | 4 => 8
  | 5 => 29
  | _ => 0
def mT (c : Nat) : u_T := match c with
  | 0 => TX0
  | 1 => TX1
  | 2 => TX2
  | 3 => TX3
  | 4 => TX4
  | _ => TX5
def mty (c : Nat) : Nat → FieldType := match c with
  | 0 => tyX0
  | 1 => tyX1
  | 2 => tyX2
  | 3 => tyX3
  | 4 => tyX4
  | _ => tyX5
/-- an object just made -/
def mnew (c : Nat) : List Value := (List.range (mN c)).map (fun k => defaultValue (mty c k))
def mfetch (y pc : Nat) : Option mI := (mcode y).find? (fun e => Nat.beq e.1 pc)
def mgo (pc : Nat) (loc : mL) (stk : List Value) (hs : mH) (nc ns : Nat) : Option mO := some (.inl (pc, loc, stk, hs, nc, ns))
def mld (loc : mL) (i : Nat) : Option Value := match loc[i]? with
  | some (some v) => some v
  | _ => none
def mclr (loc : mL) (i : Nat) : mL := match i with
  | 0 => loc
  | j + 1 => match loc[j]? with
    | some (some v) => bif Nat.beq v.category 2 then loc.set j none else loc
    | _ => loc
def mst1 (loc : mL) (i : Nat) (v : Value) : mL := (mclr loc i).set i (some v)
def mst2 (loc : mL) (i : Nat) (v : Value) : mL := ((mclr loc i).set i (some v)).set (i + 1) none
def mjp (pc : Nat) (off : Int) (loc : mL) (stk : List Value) (hs : mH) (nc ns : Nat) : Option mO := match (pc : Int) + off with
  | .ofNat t => mgo t loc stk hs nc ns
  | .negSucc _ => none
def mtk (c : ClassFile.Cond) (x y : Int32) : Bool := match c with
  | .eq => decide (x = y)
  | .ne => decide (¬ x = y)
  | .lt => decide (x < y)
  | .ge => decide (y ≤ x)
  | .gt => decide (y < x)
  | .le => decide (x ≤ y)
def mI1 (f : Int32 → Value) (k : List Value → Option mO) (stk : List Value) : Option mO := match stk with
  | .int x :: st => k (f x :: st)
  | _ => none
def mI2 (f : Int32 → Int32 → Option Int32) (k : List Value → Option mO) (stk : List Value) : Option mO := match stk with
  | .int y :: .int x :: st => match f x y with
    | some v => k (.int v :: st)
    | none => none
  | _ => none
def mL2 (f : Int64 → Int64 → Option Value) (k : List Value → Option mO) (stk : List Value) : Option mO := match stk with
  | .long y :: .long x :: st => match f x y with
    | some v => k (v :: st)
    | none => none
  | _ => none
def midx (i : Int32) (n : Nat) : Option Nat := if i < 0 then none else bif Nat.blt i.toNatClampNeg n then some i.toNatClampNeg else none
def mak (t : ArrayType) : Option Nat := match t with
  | .int => some 0
  | .byte => some 1
  | .boolean => some 2
  | _ => none
def mfit (ty : FieldType) (v : Value) : Bool := match ty, v with
  | .int, .int _ => true
  | .boolean, .int x => decide (x = 0) || decide (x = 1)
  | .object _, .ref _ => true
  | .array _, .ref _ => true
  | _, _ => false
def mcat (st : List Value) : Nat := (st.map fun v => v.category).sum
def mpop (n : Nat) (stk : List Value) : Option (List Value × List Value) := bif Nat.ble n stk.length then some ((stk.take n).reverse, stk.drop n) else none
def mcpy (xs ys : List Int32) (sp dp n : Nat) : List Int32 := ys.take dp ++ ((xs.drop sp).take n ++ ys.drop (dp + n))
/-! the top of the stack, a local, a cell of the heap: what goes on, or nothing -/
def tI (stk : List Value) (F : Int32 → List Value → Option mO) : Option mO := match stk with
  | .int x :: st => F x st
  | _ => none
def tL (stk : List Value) (F : Int64 → List Value → Option mO) : Option mO := match stk with
  | .long x :: st => F x st
  | _ => none
def tR (stk : List Value) (F : Nat → List Value → Option mO) : Option mO := match stk with
  | .ref x :: st => F x st
  | _ => none
def tV (stk : List Value) (F : Value → List Value → Option mO) : Option mO := match stk with
  | v :: st => F v st
  | _ => none
def tE (stk : List Value) (x : Option mO) : Option mO := match stk with
  | [] => x
  | _ => none
def lI (loc : mL) (i : Nat) (F : Int32 → Option mO) : Option mO := match mld loc i with
  | some (.int x) => F x
  | _ => none
def lL (loc : mL) (i : Nat) (F : Int64 → Option mO) : Option mO := match mld loc i with
  | some (.long x) => F x
  | _ => none
def lR (loc : mL) (i : Nat) (F : Nat → Option mO) : Option mO := match mld loc i with
  | some (.ref x) => F x
  | _ => none
def hO (hs : mH) (r : Nat) (F : Nat → List Value → Option mO) : Option mO := match hs[r]? with
  | some (.inr (c, vs)) => F c vs
  | _ => none
def hA (hs : mH) (r : Nat) (F : Nat → List Int32 → Option mO) : Option mO := match hs[r]? with
  | some (.inl (c, vs)) => F c vs
  | _ => none
def oB (b : Bool) (x : Option mO) : Option mO := bif b then x else none
def oI (i : Int32) (n : Nat) (F : Nat → Option mO) : Option mO := match midx i n with
  | some j => F j
  | none => none
def oV (vs : List Value) (k : Nat) (F : Value → Option mO) : Option mO := match vs[k]? with
  | some v => F v
  | none => none
def oR (vs : List Value) (k : Nat) (F : Nat → Option mO) : Option mO := match vs[k]? with
  | some (.ref v) => F v
  | _ => none
def oN (n : Int32) (F : Nat → Option mO) : Option mO := if n < 0 then none else F n.toNatClampNeg
def oP (n : Nat) (stk : List Value) (F : List Value → List Value → Option mO) : Option mO := match mpop n stk with
  | some (as, rest) => F as rest
  | none => none
/-- the places ahead of this one are read alone: 0 the script, 1 and 2 the static rows, 3 to 9 the String constants -/
def mn0 : Nat := 10
def roA (r : Nat) : List Int32 := bif Nat.beq r 1 then [-2, -1, -5, -5] else [2, 1, 2, 4]
def roStr : List (List Int32) := [[112, 108, 97, 105, 110], [113, 117, 105, 99, 107], [108, 97, 122, 121], [98, 101, 110, 116], [114, 111, 111, 109], [119, 97, 108, 108], [111, 117, 116]]
def roS (r : Nat) : List Int32 := roStr.getD (r - 3) []
def mexec (sc : List Int32) (y : Nat) (ins : Instr) (a b : Nat) (z : Int) (pc : Nat) (loc : mL) (stk : List Value) (hs : mH) (nc ns : Nat) : Option mO := match ins with
  | .iconst n => mgo (pc + 1) loc (.int (Int32.ofInt n) :: stk) hs nc ns
  | .bipush n => mgo (pc + 2) loc (.int (Int8.ofInt n).toInt32 :: stk) hs nc ns
  | .sipush n => mgo (pc + 3) loc (.int (Int16.ofInt n).toInt32 :: stk) hs nc ns
  | .lconst n => mgo (pc + 1) loc (.long (Int64.ofNat (n : Nat)) :: stk) hs nc ns
  | .ldc _ => bif Nat.beq a 0 then mgo (pc + 2) loc (.int (Int32.ofInt z) :: stk) hs nc ns else oB (Nat.blt a 10) (mgo (pc + 2) loc (.ref a :: stk) hs nc ns)
  | .getstatic _ => oB (Nat.blt a 10) (mgo (pc + 3) loc (.ref a :: stk) hs nc ns)
  | .ldc2_w _ => mgo (pc + 3) loc (.long (Int64.ofInt z) :: stk) hs nc ns
  | .iload_n k => lI loc k fun x => mgo (pc + 1) loc (.int x :: stk) hs nc ns
  | .iload k => lI loc k fun x => mgo (pc + 2) loc (.int x :: stk) hs nc ns
  | .lload_n k => lL loc k fun x => mgo (pc + 1) loc (.long x :: stk) hs nc ns
  | .lload k => lL loc k fun x => mgo (pc + 2) loc (.long x :: stk) hs nc ns
  | .aload_n k => lR loc k fun x => mgo (pc + 1) loc (.ref x :: stk) hs nc ns
  | .aload k => lR loc k fun x => mgo (pc + 2) loc (.ref x :: stk) hs nc ns
  | .istore_n k => tI stk fun x st => oB (Nat.blt k (mmaxL y)) (mgo (pc + 1) (mst1 loc k (.int x)) st hs nc ns)
  | .istore k => tI stk fun x st => oB (Nat.blt k (mmaxL y)) (mgo (pc + 2) (mst1 loc k (.int x)) st hs nc ns)
  | .lstore_n k => tL stk fun x st => oB (Nat.blt (k + 1) (mmaxL y)) (mgo (pc + 1) (mst2 loc k (.long x)) st hs nc ns)
  | .lstore k => tL stk fun x st => oB (Nat.blt (k + 1) (mmaxL y)) (mgo (pc + 2) (mst2 loc k (.long x)) st hs nc ns)
  | .astore_n k => tR stk fun x st => oB (Nat.blt k (mmaxL y)) (mgo (pc + 1) (mst1 loc k (.ref x)) st hs nc ns)
  | .astore k => tR stk fun x st => oB (Nat.blt k (mmaxL y)) (mgo (pc + 2) (mst1 loc k (.ref x)) st hs nc ns)
  | .iinc k n => lI loc k fun x => mgo (pc + 3) (mst1 loc k (.int (x + Int32.ofInt n))) stk hs nc ns
  | .iadd => mI2 (fun x y => some (x + y)) (fun st => mgo (pc + 1) loc st hs nc ns) stk
  | .isub => mI2 (fun x y => some (x - y)) (fun st => mgo (pc + 1) loc st hs nc ns) stk
  | .imul => mI2 (fun x y => some (x * y)) (fun st => mgo (pc + 1) loc st hs nc ns) stk
  | .iand => mI2 (fun x y => some (x &&& y)) (fun st => mgo (pc + 1) loc st hs nc ns) stk
  | .ior => mI2 (fun x y => some (x ||| y)) (fun st => mgo (pc + 1) loc st hs nc ns) stk
  | .ixor => mI2 (fun x y => some (x ^^^ y)) (fun st => mgo (pc + 1) loc st hs nc ns) stk
  | .idiv => mI2 (fun x y => if y = 0 then none else some (x / y)) (fun st => mgo (pc + 1) loc st hs nc ns) stk
  | .irem => mI2 (fun x y => if y = 0 then none else some (x - x / y * y)) (fun st => mgo (pc + 1) loc st hs nc ns) stk
  | .ishl => mI2 (fun x y => some (x <<< (y &&& 31))) (fun st => mgo (pc + 1) loc st hs nc ns) stk
  | .ishr => mI2 (fun x y => some (x >>> (y &&& 31))) (fun st => mgo (pc + 1) loc st hs nc ns) stk
  | .iushr => mI2 (fun x y => some ((x.toUInt32 >>> (y.toUInt32 &&& Int32.toUInt32 31)).toInt32)) (fun st => mgo (pc + 1) loc st hs nc ns) stk
  | .ineg => mI1 (fun x => .int (-x)) (fun st => mgo (pc + 1) loc st hs nc ns) stk
  | .i2l => mI1 (fun x => .long x.toInt64) (fun st => mgo (pc + 1) loc st hs nc ns) stk
  | .i2b => mI1 (fun x => .int x.toInt8.toInt32) (fun st => mgo (pc + 1) loc st hs nc ns) stk
  | .i2s => mI1 (fun x => .int x.toInt16.toInt32) (fun st => mgo (pc + 1) loc st hs nc ns) stk
  | .i2c => mI1 (fun x => .int (x.toUInt32 % 65536).toInt32) (fun st => mgo (pc + 1) loc st hs nc ns) stk
  | .ladd => mL2 (fun x y => some (.long (x + y))) (fun st => mgo (pc + 1) loc st hs nc ns) stk
  | .lmul => mL2 (fun x y => some (.long (x * y))) (fun st => mgo (pc + 1) loc st hs nc ns) stk
  | .ldiv => mL2 (fun x y => if y = 0 then none else some (.long (x / y))) (fun st => mgo (pc + 1) loc st hs nc ns) stk
  | .lrem => mL2 (fun x y => if y = 0 then none else some (.long (x - x / y * y))) (fun st => mgo (pc + 1) loc st hs nc ns) stk
  | .lcmp => mL2 (fun x y => some (.int (lg_cmp x y))) (fun st => mgo (pc + 1) loc st hs nc ns) stk
  | .dup => tV stk fun v st => oB (Nat.beq v.category 1) (mgo (pc + 1) loc (v :: v :: st) hs nc ns)
  | .pop => tV stk fun v st => oB (Nat.beq v.category 1) (mgo (pc + 1) loc st hs nc ns)
  | .pop2 => tV stk fun v st => oB (Nat.beq v.category 2) (mgo (pc + 1) loc st hs nc ns)
  | .dup2 => tV stk fun v st => tV st fun w st => oB (Nat.beq v.category 1) (oB (Nat.beq w.category 1) (mgo (pc + 1) loc (v :: w :: v :: w :: st) hs nc ns))
  | .goto off => mjp pc off loc stk hs nc ns
  | .ifCond cd off => tI stk fun x st => bif mtk cd x 0 then mjp pc off loc st hs nc ns else mgo (pc + 3) loc st hs nc ns
  | .if_icmp cd off => tI stk fun y st => tI st fun x st => bif mtk cd x y then mjp pc off loc st hs nc ns else mgo (pc + 3) loc st hs nc ns
  | .tableswitch d lo hi offs => tI stk fun x st => if x.toInt < lo ∨ hi < x.toInt then mjp pc d loc st hs nc ns else match offs[(x.toInt - lo).toNat]? with
    | some off => mjp pc off loc st hs nc ns
    | none => none
  | .getfield _ => tR stk fun r st => hO hs r fun c vs => oB (Nat.beq c a) (oV vs b fun v => mgo (pc + 3) loc (v :: st) hs nc ns)
  | .putfield _ => tV stk fun v st => tR st fun r st => oB (Nat.ble mn0 r) <| hO hs r fun c vs => oB (Nat.beq c a) (oB (Nat.blt b vs.length) (oB (mfit (mty a b) v) (mgo (pc + 3) loc st (hs.set r (.inr (c, vs.set b v))) nc ns)))
  | .iaload => tI stk fun i st => tR st fun r st => bif Nat.ble mn0 r then hA hs r fun k xs => oB (Nat.beq k 0) (oI i xs.length fun j => mgo (pc + 1) loc (.int (xs.getD j 0) :: st) hs nc ns) else bif Nat.beq r 0 then oB (Nat.beq y 184) (oI i sc.length fun j => mgo (pc + 1) loc (.int (sc.getD j 0) :: st) hs nc ns) else oB (Nat.blt r 3) (oI i 4 fun j => mgo (pc + 1) loc (.int ((roA r).getD j 0) :: st) hs nc ns)
  | .baload => tI stk fun i st => tR st fun r st => oB (Nat.ble mn0 r) <| hA hs r fun k xs => oB (Nat.beq k 1 || Nat.beq k 2) (oI i xs.length fun j => mgo (pc + 1) loc (.int (xs.getD j 0) :: st) hs nc ns)
  | .iastore => tI stk fun x st => tI st fun i st => tR st fun r st => oB (Nat.ble mn0 r) <| hA hs r fun k xs => oB (Nat.beq k 0) (oI i xs.length fun j => mgo (pc + 1) loc st (hs.set r (.inl (0, xs.set j x))) nc ns)
  | .bastore => tI stk fun x st => tI st fun i st => tR st fun r st => oB (Nat.ble mn0 r) <| hA hs r fun k xs => oI i xs.length fun j =>
    bif Nat.beq k 1 then mgo (pc + 1) loc st (hs.set r (.inl (1, xs.set j (vp_nar .byte x)))) nc ns else oB (Nat.beq k 2) (mgo (pc + 1) loc st (hs.set r (.inl (2, xs.set j (vp_nar .boolean x)))) nc ns)
  | .aaload => tI stk fun i st => tR st fun r st => hO hs r fun c vs => oB (Nat.beq c 7 || Nat.beq c 8) (oI i vs.length fun j => oR vs j fun v => mgo (pc + 1) loc (.ref v :: st) hs nc ns)
  | .aastore => tR stk fun v st => tI st fun i st => tR st fun r st => oB (Nat.ble mn0 r) <| hO hs r fun c vs => hO hs v fun cv _ => oB ((Nat.beq c 7 && Nat.beq cv 1) || (Nat.beq c 8 && Nat.beq cv 2)) (oI i vs.length fun j => mgo (pc + 1) loc st (hs.set r (.inr (c, vs.set j (.ref v)))) nc ns)
  | .arraylength => tR stk fun r st => bif Nat.ble mn0 r then hA hs r fun k xs => oB (Nat.ble k 2) (mgo (pc + 1) loc (.int (Int32.ofNat xs.length) :: st) hs nc ns) else oB (Nat.beq r 0) (oB (Nat.beq y 184) (mgo (pc + 1) loc (.int (Int32.ofNat sc.length) :: st) hs nc ns))
  | .new _ => oB (Nat.blt a 6) (mgo (pc + 3) loc (.ref hs.length :: stk) (hs ++ [.inr (a, mnew a)]) (nc + 1) (ns + mN a))
  | .newarray t => tI stk fun n st => (match mak t with
    | some k => oN n fun N => oB (Nat.ble N 10000) (mgo (pc + 2) loc (.ref hs.length :: st) (hs ++ [.inl (k, List.replicate N 0)]) (nc + 1) (ns + N))
    | none => none)
  | .anewarray _ => tI stk fun n st => oB (Nat.beq a 1 || Nat.beq a 2) (oN n fun N => oB (Nat.ble N 10000) (mgo (pc + 3) loc (.ref hs.length :: st) (hs ++ [.inr (6 + a, List.replicate N .null)]) (nc + 1) (ns + N)))
  | .invokevirtual _ => (match b with
    | 8 => tR stk fun r st => oB (Nat.ble 3 r) (oB (Nat.blt r 10) (oB (Nat.ble (mcat st) 8) (mgo (pc + 3) loc (.int (Int32.ofNat (roS r).length) :: st) hs nc ns)))
    | 9 => tI stk fun i st => tR st fun r st => oB (Nat.ble 3 r) (oB (Nat.blt r 10) (oB (Nat.ble (mcat st) 8) (oI i (roS r).length fun j => mgo (pc + 3) loc (.int ((roS r).getD j 0) :: st) hs nc ns)))
    | _ => oP (marg a) stk fun as st => tR st fun r rest => hO hs r fun c _ => oB (Nat.beq c (mown a)) (oB (Nat.blt c 6) (oB (Nat.ble (mcat rest) 8) (some (.inr (.inr (a, .ref r :: as, (pc + 3, loc, rest, hs, nc, ns))))))))
  | .invokestatic _ => (match b with
    | 4 => tI stk fun n st => tI st fun dp st => tR st fun d st => oB (Nat.ble mn0 d) <| tI st fun sp st => tR st fun r st => oB (Nat.ble mn0 r) <| hA hs r fun k xs => hA hs d fun k2 ys => oB (Nat.beq k 0) (oB (Nat.beq k2 0) (oN sp fun sp => oN dp fun dp => oN n fun n =>
      oB (Nat.ble (sp + n) xs.length) (oB (Nat.ble (dp + n) ys.length) (oB (Nat.ble (mcat st) 8) (mgo (pc + 3) loc st (hs.set d (.inl (0, mcpy xs ys sp dp n))) nc ns)))))
    | 5 => tI stk fun v st => tI st fun u st => oB (Nat.ble (mcat st) 8) (mgo (pc + 3) loc (.int (if v < u then v else u) :: st) hs nc ns)
    | 6 => tI stk fun v st => tI st fun u st => oB (Nat.ble (mcat st) 8) (mgo (pc + 3) loc (.int (if u < v then v else u) :: st) hs nc ns)
    | 7 => tL stk fun v st => tL st fun u st => oB (Nat.ble (mcat st) 8) (mgo (pc + 3) loc (.long (if v < u then u else v) :: st) hs nc ns)
    | _ => oP (marg a) stk fun as rest => oB (Nat.ble (mcat rest) 8) (some (.inr (.inr (a, as, (pc + 3, loc, rest, hs, nc, ns))))))
  | .invokespecial _ => (match b with
    | 2 => tR stk fun _ st => oB (Nat.ble (mcat st) 8) (mgo (pc + 3) loc st hs nc ns)
    | _ => oP (marg a) stk fun as st => tR st fun r rest => oB (Nat.ble (mcat rest) 8) (some (.inr (.inr (a, .ref r :: as, (pc + 3, loc, rest, hs, nc, ns))))))
  | .return_ => tE stk (oB (decide (mret y = none)) (some (.inr (.inl none))))
  | .ireturn => tI stk fun x st => tE st (match mret y with
    | some .int => some (.inr (.inl (some (.int x))))
    | some .boolean => oB (decide (x = 0) || decide (x = 1)) (some (.inr (.inl (some (.int x)))))
    | _ => none)
  | .lreturn => tL stk fun x st => tE st (oB (decide (mret y = some .long)) (some (.inr (.inl (some (.long x))))))
  | .areturn => tR stk fun x st => tE st (match mret y with
    | some (.object _) => some (.inr (.inl (some (.ref x))))
    | _ => none)
  | _ => none
def mstep (sc : List Int32) (y : Nat) (q : mS) : Option mO := match mfetch y q.1 with
  | none => none
  | some i => mexec sc y i.2.1 i.2.2.2.1 i.2.2.2.2.1 i.2.2.2.2.2 q.1 q.2.1 q.2.2.1 q.2.2.2.1 q.2.2.2.2.1 q.2.2.2.2.2
def margs : List Value → mL
  | [] => []
  | v :: vs => bif Nat.beq v.category 2 then some v :: none :: margs vs else some v :: margs vs
def mentry (y : Nat) (as : List Value) (hs : mH) : mS := (0, (margs as ++ List.replicate (mmaxL y - (margs as).length) none), [], hs, 0, 0)
def mmon (q q' : mS) : Bool := Nat.ble q.2.2.2.2.1 q'.2.2.2.2.1 && Nat.ble q.2.2.2.2.2 q'.2.2.2.2.2
def mrun (sc : List Int32) : Nat → Nat → Nat → mS → Option (Option Value × mH × Nat × Nat)
  | 0, _, _, _ => none
  | n + 1, d, y, q => match mstep sc y q with
    | none => none
    | some (.inl q') => bif mmon q q' then mrun sc n d y q' else none
    | some (.inr (.inl v)) => some (v, q.2.2.2.1, q.2.2.2.2.1, q.2.2.2.2.2)
    | some (.inr (.inr (y', as, q'))) => match d with
      | 0 => none
      | d' + 1 => match mrun sc n d' y' (mentry y' as q'.2.2.2.1) with
        | none => none
        | some (v, hs', c', s') => bif mmon q q' && Nat.ble (margs as).length (mmaxL y') then mrun sc n (d' + 1) y (q'.1, q'.2.1, v.toList ++ q'.2.2.1, hs', q'.2.2.2.2.1 + c', q'.2.2.2.2.2 + s') else none
end Q06
section Q07
/-! the words that the tables give, by numbers -/
def mgood : List Cond := lw_tbl.filter goodWord
theorem mem_good {w : Cond} (h : w ∈ lw_tbl) (g : goodWord w = true) : w ∈ mgood := List.mem_filter.mpr ⟨h, g⟩
theorem mgood_in : GoodIn lw_tbl mgood := fun w h => ⟨(List.mem_filter.mp h).1, good_of_word (List.mem_filter.mp h).2⟩
theorem mgood_self : GoodIn mgood mgood := fun w h => ⟨h, good_of_word (List.mem_filter.mp h).2⟩
/-- a list in the order of another -/
def msub : List Cond → List Cond → Bool
  | [], _ => true
  | _ :: _, [] => false
  | a :: as, b :: bs => bif decide (a = b) then msub as bs else msub (a :: as) bs
theorem msub_mem : ∀ (as bs : List Cond), msub as bs = true → ∀ w ∈ as, w ∈ bs
  | [], _, _, w, hw => absurd hw List.not_mem_nil
  | _ :: _, [], h, _, _ => by simp [msub] at h
  | a :: as, b :: bs, h, w, hw => by
    by_cases e : a = b
    · rw [msub, decide_eq_true e] at h
      rcases List.mem_cons.mp hw with q | q
      · rw [q, e]; exact List.mem_cons_self
      · exact List.mem_cons_of_mem _ (msub_mem as bs h w q)
    · rw [msub, decide_eq_false e] at h
      exact List.mem_cons_of_mem _ (msub_mem (a :: as) bs h w hw)
def mwF (q : Nat × Nat × Nat × Nat) : Cond := .fieldLink (mR q.1) q.2.1 (mT q.2.2.1 q.2.2.2).1 (mT q.2.2.1 q.2.2.2).2.1 (mT q.2.2.1 q.2.2.2).2.2.1
theorem mlF_ok : msub (mlF.map mwF) lw_tbl = true := by decide +kernel
theorem mlC_ok : msub (mlC.map (fun q => .classLink (mR q.1) q.2.1 (mR q.2.2))) lw_tbl = true := by decide +kernel
theorem mlK_ok : msub (mlK.map (fun q => .constant (mR q.1) q.2.1 (Int32.ofInt q.2.2))) lw_tbl = true := by decide +kernel
theorem mlO_ok : msub (mlO.map (fun q => .methodLink (mR q.1) q.2 Lib.objectInit)) lw_tbl = true := by decide +kernel
theorem mlA_ok : msub (mlA.map (fun q => .methodLink (mR q.1) q.2 arraycopyName)) lw_tbl = true := by decide +kernel
end Q07
section Q08
theorem mlM_ok : msub (mlM.map (fun q => .methodLink (mR q.1) q.2.1 (mname q.2.2))) lw_tbl = true := by decide +kernel
theorem mlN_ok : msub (mlN.map (fun q => .methodLinkNest (mR q.1) q.2.1 (mname q.2.2) RX4)) lw_tbl = true := by decide +kernel
theorem mlL_ok : msub (mlL.map (fun q => .constantLong (mR q.1) q.2.1 (Int64.ofInt q.2.2))) lw_tbl = true := by decide +kernel
theorem moInst_ok : msub (moInst.map (fun y => .instanceMethod (mname y))) lw_tbl = true := by decide +kernel
theorem moStat_ok : msub (moStat.map (fun y => .static (mname y))) lw_tbl = true := by decide +kernel
theorem moSel_ok : msub (moSel.map (fun y => .selects (mname y).cls (mname y) (mname y))) lw_tbl = true := by decide +kernel
theorem moIni_ok : msub (moIni.map (fun o => .initialized (mR o))) lw_tbl = true := by decide +kernel
theorem moIns_ok : msub (moIns.map (fun o => .instantiable (mR o) (mN o))) lw_tbl = true := by decide +kernel
theorem mlMin_ok : msub (mlMin.map (fun q => .methodLink (mR q.1) q.2 Lib.Math.min.name)) lw_tbl = true := by decide +kernel
theorem mlMax_ok : msub (mlMax.map (fun q => .methodLink (mR q.1) q.2 Lib.Math.max.name)) lw_tbl = true := by decide +kernel
theorem mlMaxL_ok : msub (mlMaxL.map (fun q => .methodLink (mR q.1) q.2 Lib.MathLoose.max_long.x)) lw_tbl = true := by decide +kernel
/-- words taken out of a list, by how many are passed over -/
def mpick (l : List Cond) : List Nat → List Cond
  | [] => []
  | g :: gs => match l.drop g with
    | [] => []
    | a :: r => a :: mpick r gs
theorem mpick_mem : ∀ (gs : List Nat) (l : List Cond), ∀ w ∈ mpick l gs, w ∈ l
  | [], _, w, h => by simp [mpick] at h
  | g :: gs, l, w, h => by
    cases e : l.drop g with
    | nil => simp [mpick, e] at h
    | cons a r =>
      rw [mpick, e] at h
      have sub : ∀ x ∈ a :: r, x ∈ l := fun x hx => List.mem_of_mem_drop (e ▸ hx)
      rcases List.mem_cons.mp h with q | q
      · rw [q]; exact sub a List.mem_cons_self
      · exact sub w (List.mem_cons_of_mem _ (mpick_mem gs r w q))
end Q08
section Q09
set_option maxRecDepth 100000 in
theorem moCode_ok : moCode.map (fun y => Cond.code (mname y) (mbytes y) (mmaxL y) (mret y)) = mpick lw_tbl mgaps := rfl
end Q09
section Q10
/-! what is checked of every row of the code tables, beside its decoding -/
def mlen (ins : Instr) : Nat := match ins with
  | .bipush _ => 2
  | .sipush _ => 3
  | .ldc _ => 2
  | .ldc2_w _ => 3
  | .iload _ => 2
  | .lload _ => 2
  | .aload _ => 2
  | .istore _ => 2
  | .lstore _ => 2
  | .astore _ => 2
  | .iinc _ _ => 3
  | .goto _ => 3
  | .ifCond _ _ => 3
  | .if_icmp _ _ => 3
  | .getfield _ => 3
  | .putfield _ => 3
  | .getstatic _ => 3
  | .invokevirtual _ => 3
  | .invokestatic _ => 3
  | .invokespecial _ => 3
  | .new _ => 3
  | .newarray _ => 2
  | .anewarray _ => 3
  | .tableswitch _ _ _ _ => 0
  | _ => 1
def meq3 (a b : Nat × Nat × Nat) : Bool := Nat.beq a.1 b.1 && (Nat.beq a.2.1 b.2.1 && Nat.beq a.2.2 b.2.2)
def meq4 (a b : Nat × Nat × Nat × Nat) : Bool := Nat.beq a.1 b.1 && (Nat.beq a.2.1 b.2.1 && (Nat.beq a.2.2.1 b.2.2.1 && Nat.beq a.2.2.2 b.2.2.2))
def meqz (a b : Nat × Nat × Int) : Bool := Nat.beq a.1 b.1 && (Nat.beq a.2.1 b.2.1 && decide (a.2.2 = b.2.2))
def meq2 (a b : Nat × Nat) : Bool := Nat.beq a.1 b.1 && Nat.beq a.2 b.2
theorem meq3_eq {a b : Nat × Nat × Nat} (h : meq3 a b = true) : a = b := by
  obtain ⟨a1, a2, a3⟩ := a
  obtain ⟨b1, b2, b3⟩ := b
  simp only [meq3, Bool.and_eq_true] at h
  obtain ⟨h1, h2, h3⟩ := h
  rw [Nat.eq_of_beq_eq_true h1, Nat.eq_of_beq_eq_true h2, Nat.eq_of_beq_eq_true h3]
theorem meq4_eq {a b : Nat × Nat × Nat × Nat} (h : meq4 a b = true) : a = b := by
  obtain ⟨a1, a2, a3, a4⟩ := a
  obtain ⟨b1, b2, b3, b4⟩ := b
  simp only [meq4, Bool.and_eq_true] at h
  obtain ⟨h1, h2, h3, h4⟩ := h
  rw [Nat.eq_of_beq_eq_true h1, Nat.eq_of_beq_eq_true h2, Nat.eq_of_beq_eq_true h3, Nat.eq_of_beq_eq_true h4]
theorem meqz_eq {a b : Nat × Nat × Int} (h : meqz a b = true) : a = b := by
  obtain ⟨a1, a2, a3⟩ := a
  obtain ⟨b1, b2, b3⟩ := b
  simp only [meqz, Bool.and_eq_true, decide_eq_true_eq] at h
  obtain ⟨h1, h2, h3⟩ := h
  rw [Nat.eq_of_beq_eq_true h1, Nat.eq_of_beq_eq_true h2, h3]
theorem meq2_eq {a b : Nat × Nat} (h : meq2 a b = true) : a = b := by
  obtain ⟨a1, a2⟩ := a
  obtain ⟨b1, b2⟩ := b
  simp only [meq2, Bool.and_eq_true] at h
  obtain ⟨h1, h2⟩ := h
  rw [Nat.eq_of_beq_eq_true h1, Nat.eq_of_beq_eq_true h2]
def mchk (y : Nat) (e : mI) : Bool := (match e.2.1 with
  | .tableswitch _ _ _ _ => true
  | i => Nat.beq e.2.2.1 (mlen i)) && (match e.2.1 with
  | .getfield i => mlF.any (meq4 (mown y, i, e.2.2.2.1, e.2.2.2.2.1)) && (Nat.blt e.2.2.2.1 6 && Nat.blt e.2.2.2.2.1 (mN e.2.2.2.1))
  | .putfield i => mlF.any (meq4 (mown y, i, e.2.2.2.1, e.2.2.2.2.1)) && (Nat.blt e.2.2.2.1 6 && (Nat.blt e.2.2.2.2.1 (mN e.2.2.2.1) && (decide ((mT e.2.2.2.1 e.2.2.2.2.1).2.2.2 = false) || (decide ((mname y).name = "<init>") && decide ((mT e.2.2.2.1 e.2.2.2.2.1).1 = mR (mown y))))))
  | .invokevirtual i => (match e.2.2.2.2.1 with
    | 0 => mlM.any (meq3 (mown y, i, e.2.2.2.1)) && (Nat.beq (mkd e.2.2.2.1) 1 && Nat.blt e.2.2.2.1 184)
    | 8 => mlU.any (meq3 (mown y, i, 8))
    | 9 => mlU.any (meq3 (mown y, i, 9))
    | _ => false)
  | .invokestatic i => (match e.2.2.2.2.1 with
    | 0 => mlM.any (meq3 (mown y, i, e.2.2.2.1)) && (Nat.beq (mkd e.2.2.2.1) 0 && Nat.blt e.2.2.2.1 184)
    | 1 => mlN.any (meq3 (mown y, i, e.2.2.2.1)) && (Nat.beq (mkd e.2.2.2.1) 0 && Nat.blt e.2.2.2.1 184)
    | 4 => mlA.any (meq2 (mown y, i))
    | 5 => mlMin.any (meq2 (mown y, i))
    | 6 => mlMax.any (meq2 (mown y, i))
    | 7 => mlMaxL.any (meq2 (mown y, i))
    | _ => false)
  | .invokespecial i => (match e.2.2.2.2.1 with
    | 0 => mlM.any (meq3 (mown y, i, e.2.2.2.1)) && (Nat.beq (mkd e.2.2.2.1) 2 && Nat.blt e.2.2.2.1 184)
    | 1 => mlN.any (meq3 (mown y, i, e.2.2.2.1)) && (Nat.beq (mkd e.2.2.2.1) 2 && Nat.blt e.2.2.2.1 184)
    | 2 => mlO.any (meq2 (mown y, i))
    | _ => false)
  | .new i => mlC.any (meq3 (mown y, i, e.2.2.2.1)) && Nat.blt e.2.2.2.1 6
  | .anewarray i => mlC.any (meq3 (mown y, i, e.2.2.2.1)) && Nat.blt e.2.2.2.1 6
  | .ifCond _ off => decide (0 ≤ (e.1 : Int) + off)
  | .if_icmp _ off => decide (0 ≤ (e.1 : Int) + off)
  | .ldc i => bif Nat.beq e.2.2.2.1 0 then mlK.any (meqz (mown y, i, e.2.2.2.2.2)) else mlT.any (meq3 (mown y, i, e.2.2.2.1))
  | .getstatic i => mlS.any (meq3 (mown y, i, e.2.2.2.1))
  | .ldc2_w i => mlL.any (meqz (mown y, i, e.2.2.2.2.2))
  | _ => true)
theorem mchk_ok : (List.range 185).all (fun y => (mcode y).all (mchk y)) = true := by decide +kernel
def mmB (y : Nat) : Bool := decide ((parseMethodDescriptor (mname y).desc).map (fun d => d.parameters.length) = some (marg y)) && (plainName (mname y).cls && (decide ((mname y).cls ≠ "java/lang/invoke/MethodHandle") && (decide ((mname y).cls ≠ "java/lang/invoke/VarHandle") && (decide ((mname y).cls = mR (mown y)) && ((moCode.any (Nat.beq y)) && (moIni.any (Nat.beq (mown y)) &&
  (match mkd y with
  | 0 => moStat.any (Nat.beq y)
  | 1 => moInst.any (Nat.beq y) && moSel.any (Nat.beq y)
  | _ => moInst.any (Nat.beq y) && (decide ((mname y).name = "<init>") && decide (mret y = none)))))))))
theorem mm_ok : (List.range 184).all mmB = true := by decide +kernel
end Q10
section Q11
/-! how a state of the mini machine stands in the machine's heap -/
def cV (ad : Nat → Nat) (v : Value) : Value := match v with
  | .ref a => .ref (ad a)
  | .int x => .int x
  | .long x => .long x
  | .float x => .float x
  | .double x => .double x
  | .null => .null
  | .retAddr x => .retAddr x
theorem cV_cat (ad : Nat → Nat) (v : Value) : (cV ad v).category = v.category := by cases v <;> rfl
def cF (ad : Nat → Nat) (v : Value) : Option Nat := match v with
  | .ref a => some (ad a)
  | _ => none
def cE (tc : Nat → ClassId) (ad : Nat → Nat) (x : mE) : va_E := match x with
  | .inl (k, xs) => .inl (tc k, xs.length, .inl (fun j => xs.getD j 0))
  | .inr (c, vs) => bif Nat.blt c 6 then .inr (c, vs.map (cV ad)) else .inl (tc (c - 4), vs.length, .inr (.inr (.inr (.inr (fun j => cF ad (vs.getD j .null))))))
def cW (tc : Nat → ClassId) (ad : Nat → Nat) (hs : mH) : va_W := hs.mapIdx (fun k e => (ad k, cE tc ad e))
theorem cW_get {tc : Nat → ClassId} {ad : Nat → Nat} {hs : mH} {r : Nat} {x : mE} (h : hs[r]? = some x) : (cW tc ad hs)[r]? = some (ad r, cE tc ad x) := by
  rw [cW, List.getElem?_mapIdx, h]; rfl
theorem cW_set {tc : Nat → ClassId} {ad : Nat → Nat} (hs : mH) (r : Nat) (x : mE) : cW tc ad (hs.set r x) = (cW tc ad hs).set r (ad r, cE tc ad x) := by
  apply List.ext_getElem?
  intro i
  rw [cW, List.getElem?_mapIdx, List.getElem?_set, List.getElem?_set]
  by_cases e : r = i
  · subst e
    by_cases hl : r < hs.length
    · simp [hl, cW]
    · simp [hl, cW]
  · simp [e, cW, List.getElem?_mapIdx]
theorem cW_app {tc : Nat → ClassId} {ad : Nat → Nat} (hs : mH) (x : mE) : cW tc ad (hs ++ [x]) = cW tc ad hs ++ [(ad hs.length, cE tc ad x)] := by
  simp [cW, List.mapIdx_append]
def mtys (tc : Nat → ClassId) : List (ClassId × FieldType) := [(tc 0, .int), (tc 1, .byte), (tc 2, .boolean), (tc 3, .object RX1), (tc 4, .object RX2)]
theorem vw_get {c : Nat} (h : c < 6) : vwCl[c]? = some (mR c, mT c, mN c) := by
  match c, h with
  | 0, _ => rfl
  | 1, _ => rfl
  | 2, _ => rfl
  | 3, _ => rfl
  | 4, _ => rfl
  | 5, _ => rfl
theorem cX_get {tc : Nat → ClassId} {ad : Nat → Nat} {hs : mH} {r : Nat} {x : mE} (h3 : mn0 ≤ r) (h : hs[r]? = some x) : ((cW tc ad hs).drop mn0)[r - mn0]? = some (ad r, cE tc ad x) := by
  rw [List.getElem?_drop, Nat.add_sub_cancel' h3]; exact cW_get h
/-- the heap: the script at place 0 (read by the law alone), the world behind it -/
def mSt (D : va_G) (tc : Nat → ClassId) (ad : Nat → Nat) (A : Nat → Prop) (scr : List Int32) (H0 : Heap) (hs : mH) (H : Heap) (locs : List Loc) : Prop :=
  va_P D vwCl ((cW tc ad hs).drop mn0) H ∧ va_D (fun _ => True) ((cW tc ad hs).drop mn0) ∧ va_S A H0 H locs ∧ (∀ k : Nat, hs.length ≤ k → ad k = H.size + (k - hs.length)) ∧ (∀ k : Nat, mn0 ≤ k → A (ad k)) ∧ (∀ r : Nat, r < mn0 → hs[r]? = some (.inl (0, scr)))
theorem mSt.obj {D : va_G} {tc : Nat → ClassId} {ad : Nat → Nat} {A : Nat → Prop} {scr : List Int32} {H0 H : Heap} {hs : mH} {locs : List Loc} {r : Nat} {x : Nat × List Value} (h : mSt D tc ad A scr H0 hs H locs) (hr : hs[r]? = some (.inr x)) : mn0 ≤ r := by
  rcases Nat.lt_or_ge r mn0 with q | q
  · rw [h.2.2.2.2.2 r q] at hr; cases hr
  · exact q
theorem mSt.put {D : va_G} {tc : Nat → ClassId} {ad : Nat → Nat} {A : Nat → Prop} {scr : List Int32} {H0 H H1 : Heap} {hs : mH} {locs : List Loc} {r k : Nat} {x0 x : mE} (h : mSt D tc ad A scr H0 hs H locs) (h3 : mn0 ≤ r) (hr : hs[r]? = some x0)
    (he : va_at D vwCl (ad r, cE tc ad x) H1) (z : H1.size = H.size) (oq : ∀ q : Nat, q ≠ ad r → H1[q]? = H[q]?) : mSt D tc ad A scr H0 (hs.set r x) H1 (locs ++ [⟨ad r, k⟩]) := by
  obtain ⟨hP, hD, hS, ha, hw, h0⟩ := h
  have hr' := cX_get (tc := tc) (ad := ad) h3 hr
  refine ⟨?_, ?_, hS.put z oq (hw r h3), ?_, hw, ?_⟩
  · rw [cW_set, List.drop_set, if_neg (Nat.not_lt.mpr h3)]; exact hP.set hD hr' he oq
  · rw [cW_set, List.drop_set, if_neg (Nat.not_lt.mpr h3)]; exact hD.set hr'
  · intro k hk
    rw [List.length_set] at hk ⊢
    rw [z]; exact ha k hk
  · intro r' hr'
    rw [List.getElem?_set, if_neg (fun q => by omega)]; exact h0 r' hr'
theorem mSt.new {D : va_G} {tc : Nat → ClassId} {ad : Nat → Nat} {A : Nat → Prop} {scr : List Int32} {H0 H H1 : Heap} {hs : mH} {locs : List Loc} {x : mE} (h : mSt D tc ad A scr H0 hs H locs)
    (he : va_at D vwCl (H.size, cE tc ad x) H1) (z : H1.size = H.size + 1) (oq : ∀ q : Nat, q < H.size → H1[q]? = H[q]?) : mSt D tc ad A scr H0 (hs ++ [x]) H1 locs := by
  obtain ⟨hP, hD, hS, ha, hw, h0⟩ := h
  have hlen : mn0 ≤ hs.length := (List.getElem?_eq_some_iff.mp (h0 9 (by decide))).1
  have hz : ad hs.length = H.size := by rw [ha _ (Nat.le_refl _)]; omega
  have hdr : (cW tc ad (hs ++ [x])).drop mn0 = (cW tc ad hs).drop mn0 ++ [(ad hs.length, cE tc ad x)] := by
    rw [cW_app, List.drop_append_of_le_length (by rw [cW, List.length_mapIdx]; exact hlen)]
  have hk : ∀ (k : Nat) (x : Nat × va_E), ((cW tc ad hs).drop mn0)[k]? = some x → H1[x.1]? = H[x.1]? := fun k x hx => oq x.1 ((hP k x hx).lt)
  refine ⟨?_, ?_, ⟨Nat.le_trans hS.1 (by omega), fun q h1 h2 => (oq q (Nat.lt_of_lt_of_le h1 hS.1)).trans (hS.2.1 q h1 h2), hS.2.2⟩, ?_, hw, ?_⟩
  · rw [hdr]
    refine (hP.kept hk).app (fun k q hq => ?_)
    have hz1 : k < 1 := (List.getElem?_eq_some_iff.mp hq).1
    rw [show k = 0 by omega] at hq
    cases hq
    rw [hz]; exact he
  · rw [hdr]
    exact hD.push hP hz trivial
  · intro k hk
    rw [List.length_append, List.length_singleton] at hk ⊢
    rw [ha k (by omega), z]; omega
  · intro r hr
    rw [List.getElem?_append_left (Nat.lt_of_lt_of_le hr hlen)]; exact h0 r hr
/-! locals -/
def mLoc (ad : Nat → Nat) (loc : mL) (n : Nat) (ls : Array Slot) : Prop := ls.size = n ∧ lv_wf ls ∧ ∀ (i : Nat) (v : Value), mld loc i = some v → ls[i]? = some (.val (cV ad v))
def mflat (ad : Nat → Nat) (loc : mL) : List (Nat × Value) := (List.range loc.length).filterMap (fun i => (mld loc i).map (fun v => (i, cV ad v)))
theorem mld_lt {loc : mL} {i : Nat} {v : Value} (h : mld loc i = some v) : i < loc.length := by
  rcases Nat.lt_or_ge i loc.length with q | q
  · exact q
  · rw [mld, List.getElem?_eq_none q] at h; cases h
theorem mld_iff {loc : mL} {i : Nat} {v : Value} : mld loc i = some v ↔ loc[i]? = some (some v) := by
  unfold mld
  split
  · next w h => rw [h]; simp
  · next h =>
    constructor
    · intro q; cases q
    · intro q; exact absurd q (h v)
theorem mflat_mem {ad : Nat → Nat} {loc : mL} {q : Nat × Value} : q ∈ mflat ad loc ↔ ∃ v, mld loc q.1 = some v ∧ q.2 = cV ad v := by
  obtain ⟨i, w⟩ := q
  simp only [mflat, List.mem_filterMap, List.mem_range, Option.map_eq_some_iff, Prod.mk.injEq]
  constructor
  · rintro ⟨j, hj, v, hv, rfl, rfl⟩; exact ⟨v, hv, rfl⟩
  · rintro ⟨v, hv, rfl⟩; exact ⟨i, mld_lt hv, v, hv, rfl, rfl⟩
theorem mLoc.has {ad : Nat → Nat} {loc : mL} {n : Nat} {ls : Array Slot} (h : mLoc ad loc n ls) : lv_has ls n (mflat ad loc) :=
  ⟨h.1, h.2.1, fun q hq => by obtain ⟨v, h1, h2⟩ := mflat_mem.mp hq; rw [h2]; exact h.2.2 q.1 v h1⟩
theorem mclr_get {loc : mL} {i j : Nat} {v : Value} (h : (mclr loc i)[j]? = some (some v)) : loc[j]? = some (some v) ∧ ¬ (j + 1 = i ∧ v.category = 2) := by
  cases i with
  | zero => exact ⟨h, fun q => by omega⟩
  | succ i =>
    unfold mclr at h
    dsimp only at h
    cases e : loc[i]? with
    | none =>
      rw [e] at h
      refine ⟨h, fun q => ?_⟩
      have : j = i := by omega
      subst this; rw [e] at h; cases h
    | some w =>
      cases w with
      | none =>
        rw [e] at h
        refine ⟨h, fun q => ?_⟩
        have : j = i := by omega
        subst this; rw [e] at h; cases h
      | some w =>
        rw [e] at h
        dsimp only at h
        cases c : Nat.beq w.category 2 with
        | true =>
          rw [c, cond_true, List.getElem?_set] at h
          by_cases q : i = j
          · rw [if_pos q] at h
            split at h <;> cases h
          · rw [if_neg q] at h
            exact ⟨h, fun z => by omega⟩
        | false =>
          rw [c, cond_false] at h
          refine ⟨h, fun q => ?_⟩
          have : j = i := by omega
          subst this
          rw [e] at h
          cases h
          rw [q.2] at c
          cases c
theorem mLoc.st1 {ad : Nat → Nat} {loc : mL} {n i : Nat} {v : Value} {ls : Array Slot} (h : lv_has ls n ((i, cV ad v) :: (mflat ad loc).filter (fun q => !(q.1 == i) && !(q.1 + 1 == i && q.2.category == 2)))) : mLoc ad (mst1 loc i v) n ls := by
  refine ⟨h.1, h.2.1, fun j w hj => ?_⟩
  rw [mld_iff, mst1, List.getElem?_set] at hj
  by_cases e : i = j
  · subst e
    rw [if_pos rfl] at hj
    split at hj
    · cases hj; exact h.2.2 (i, cV ad v) List.mem_cons_self
    · cases hj
  · rw [if_neg e] at hj
    obtain ⟨h1, h2⟩ := mclr_get hj
    refine h.2.2 (j, cV ad w) (List.mem_cons_of_mem _ (List.mem_filter.mpr ⟨mflat_mem.mpr ⟨w, mld_iff.mpr h1, rfl⟩, ?_⟩))
    simp only [Bool.and_eq_true, Bool.not_eq_true', beq_eq_false_iff_ne, ne_eq, Bool.and_eq_false_iff, cV_cat]
    refine ⟨fun q => e q.symm, ?_⟩
    by_cases q : j + 1 = i
    · exact Or.inr (fun z => h2 ⟨q, z⟩)
    · exact Or.inl q
theorem mLoc.st2 {ad : Nat → Nat} {loc : mL} {n i : Nat} {v : Value} {ls : Array Slot} (h : lv_has ls n ((i, cV ad v) :: (mflat ad loc).filter (fun q => !(q.1 == i) && (!(q.1 == i + 1) && !(q.1 + 1 == i && q.2.category == 2))))) : mLoc ad (mst2 loc i v) n ls := by
  refine ⟨h.1, h.2.1, fun j w hj => ?_⟩
  rw [mld_iff, mst2, List.getElem?_set] at hj
  by_cases e1 : i + 1 = j
  · rw [if_pos e1] at hj
    split at hj <;> cases hj
  · rw [if_neg e1, List.getElem?_set] at hj
    by_cases e : i = j
    · subst e
      rw [if_pos rfl] at hj
      split at hj
      · cases hj; exact h.2.2 (i, cV ad v) List.mem_cons_self
      · cases hj
    · rw [if_neg e] at hj
      obtain ⟨h1, h2⟩ := mclr_get hj
      refine h.2.2 (j, cV ad w) (List.mem_cons_of_mem _ (List.mem_filter.mpr ⟨mflat_mem.mpr ⟨w, mld_iff.mpr h1, rfl⟩, ?_⟩))
      simp only [Bool.and_eq_true, Bool.not_eq_true', beq_eq_false_iff_ne, ne_eq, Bool.and_eq_false_iff, cV_cat]
      refine ⟨fun q => e q.symm, fun q => e1 q.symm, ?_⟩
      by_cases q : j + 1 = i
      · exact Or.inr (fun z => h2 ⟨q, z⟩)
      · exact Or.inl q
/-! inversions -/
theorem mgo_inv {pc : Nat} {loc : mL} {stk : List Value} {hs : mH} {nc ns : Nat} {q : mS} (h : mgo pc loc stk hs nc ns = some (.inl q)) : q = (pc, loc, stk, hs, nc, ns) := by cases h; rfl
theorem mjp_inv {pc : Nat} {off : Int} {loc : mL} {stk : List Value} {hs : mH} {nc ns : Nat} {q : mS} (h : mjp pc off loc stk hs nc ns = some (.inl q)) : ∃ t : Nat, (pc : Int) + off = (t : Int) ∧ q = (t, loc, stk, hs, nc, ns) := by
  unfold mjp at h
  cases e : (pc : Int) + off with
  | ofNat t => rw [e] at h; exact ⟨t, rfl, mgo_inv h⟩
  | negSucc t => rw [e] at h; cases h
theorem mI1_inv {f : Int32 → Value} {k : List Value → Option mO} {stk : List Value} {o : mO} (h : mI1 f k stk = some o) : ∃ x st, stk = .int x :: st ∧ k (f x :: st) = some o := by
  unfold mI1 at h
  split at h
  · exact ⟨_, _, rfl, h⟩
  · cases h
theorem mI2_inv {f : Int32 → Int32 → Option Int32} {k : List Value → Option mO} {stk : List Value} {o : mO} (h : mI2 f k stk = some o) : ∃ x y st v, stk = .int y :: .int x :: st ∧ f x y = some v ∧ k (.int v :: st) = some o := by
  unfold mI2 at h
  split at h
  · next y x st =>
    cases e : f x y with
    | none => rw [e] at h; cases h
    | some v => rw [e] at h; exact ⟨x, y, st, v, rfl, e, h⟩
  · cases h
theorem mL2_inv {f : Int64 → Int64 → Option Value} {k : List Value → Option mO} {stk : List Value} {o : mO} (h : mL2 f k stk = some o) : ∃ x y st v, stk = .long y :: .long x :: st ∧ f x y = some v ∧ k (v :: st) = some o := by
  unfold mL2 at h
  split at h
  · next y x st =>
    cases e : f x y with
    | none => rw [e] at h; cases h
    | some v => rw [e] at h; exact ⟨x, y, st, v, rfl, e, h⟩
  · cases h
theorem midx_inv {i : Int32} {n j : Nat} (h : midx i n = some j) : vp_in i n ∧ i.toNatClampNeg = j ∧ j < n := by
  unfold midx at h
  by_cases h0 : i < 0
  · rw [if_pos h0] at h; cases h
  · rw [if_neg h0] at h
    cases e : Nat.blt i.toNatClampNeg n with
    | false => rw [e] at h; cases h
    | true =>
      rw [e, cond_true] at h
      cases h
      have hl : i.toNatClampNeg < n := Nat.le_of_ble_eq_true e
      exact ⟨fun q => q.elim h0 (fun z => absurd hl (Nat.not_lt.mpr z)), rfl, hl⟩
end Q11
section Q12
/-! the JDK's own methods of String constants: length, charAt -/
abbrev cJ0_length_8abf5 : ByteArray := prog_9_method_54_code
def yJ0_length_8abf5 : MethodName := ⟨RJ0, "length", "()I"⟩
abbrev cJ0_charAt_5068e : ByteArray := prog_9_method_56_code
def yJ0_charAt_5068e : MethodName := ⟨RJ0, "charAt", "(I)C"⟩
abbrev cJ0_coder_7d493 : ByteArray := prog_9_method_152_code
def yJ0_coder_7d493 : MethodName := ⟨RJ0, "coder", "()B"⟩
abbrev cJ0_isLatin1_aae02 : ByteArray := prog_9_method_154_code
def yJ0_isLatin1_aae02 : MethodName := ⟨RJ0, "isLatin1", "()Z"⟩
abbrev cJ0_checkIndex_df160 : ByteArray := prog_9_method_155_code
def yJ0_checkIndex_df160 : MethodName := ⟨RJ0, "checkIndex", "(II)V"⟩
abbrev cJ1_charAt_3b067 : ByteArray := prog_10_method_2_code
def yJ1_charAt_3b067 : MethodName := ⟨RJ1, "charAt", "([BI)C"⟩
abbrev cJ3_checkIndex_8e157 : ByteArray := prog_13_method_11_code
def yJ3_checkIndex_8e157 : MethodName := ⟨RJ3, "checkIndex", "(IILjava/util/function/BiFunction;)I"⟩
theorem dJ0_length_8abf5_0 : decode cJ0_length_8abf5 0 = .ok (.aload_n 0, 1) := by decide +kernel
theorem dJ0_length_8abf5_1 : decode cJ0_length_8abf5 1 = .ok (.getfield 9, 3) := by decide +kernel
theorem dJ0_length_8abf5_4 : decode cJ0_length_8abf5 4 = .ok (.arraylength, 1) := by decide +kernel
theorem dJ0_length_8abf5_5 : decode cJ0_length_8abf5 5 = .ok (.aload_n 0, 1) := by decide +kernel
theorem dJ0_length_8abf5_6 : decode cJ0_length_8abf5 6 = .ok (.invokevirtual 335, 3) := by decide +kernel
theorem dJ0_length_8abf5_9 : decode cJ0_length_8abf5 9 = .ok (.ishr, 1) := by decide +kernel
theorem dJ0_length_8abf5_10 : decode cJ0_length_8abf5 10 = .ok (.ireturn, 1) := by decide +kernel
theorem dJ0_charAt_5068e_0 : decode cJ0_charAt_5068e 0 = .ok (.aload_n 0, 1) := by decide +kernel
theorem dJ0_charAt_5068e_1 : decode cJ0_charAt_5068e 1 = .ok (.invokevirtual 492, 3) := by decide +kernel
theorem dJ0_charAt_5068e_4 : decode cJ0_charAt_5068e 4 = .ok (.ifCond .eq 12, 3) := by decide +kernel
theorem dJ0_charAt_5068e_7 : decode cJ0_charAt_5068e 7 = .ok (.aload_n 0, 1) := by decide +kernel
theorem dJ0_charAt_5068e_8 : decode cJ0_charAt_5068e 8 = .ok (.getfield 9, 3) := by decide +kernel
theorem dJ0_charAt_5068e_11 : decode cJ0_charAt_5068e 11 = .ok (.iload_n 1, 1) := by decide +kernel
theorem dJ0_charAt_5068e_12 : decode cJ0_charAt_5068e 12 = .ok (.invokestatic 495, 3) := by decide +kernel
theorem dJ0_charAt_5068e_15 : decode cJ0_charAt_5068e 15 = .ok (.ireturn, 1) := by decide +kernel
theorem dJ0_charAt_5068e_16 : decode cJ0_charAt_5068e 16 = .ok (.aload_n 0, 1) := by decide +kernel
theorem dJ0_charAt_5068e_17 : decode cJ0_charAt_5068e 17 = .ok (.getfield 9, 3) := by decide +kernel
theorem dJ0_charAt_5068e_20 : decode cJ0_charAt_5068e 20 = .ok (.iload_n 1, 1) := by decide +kernel
theorem dJ0_charAt_5068e_21 : decode cJ0_charAt_5068e 21 = .ok (.invokestatic 498, 3) := by decide +kernel
theorem dJ0_charAt_5068e_24 : decode cJ0_charAt_5068e 24 = .ok (.ireturn, 1) := by decide +kernel
theorem dJ0_coder_7d493_0 : decode cJ0_coder_7d493 0 = .ok (.getstatic 38, 3) := by decide +kernel
theorem dJ0_coder_7d493_3 : decode cJ0_coder_7d493 3 = .ok (.ifCond .eq 10, 3) := by decide +kernel
theorem dJ0_coder_7d493_6 : decode cJ0_coder_7d493 6 = .ok (.aload_n 0, 1) := by decide +kernel
theorem dJ0_coder_7d493_7 : decode cJ0_coder_7d493 7 = .ok (.getfield 15, 3) := by decide +kernel
theorem dJ0_coder_7d493_10 : decode cJ0_coder_7d493 10 = .ok (.goto 4, 3) := by decide +kernel
theorem dJ0_coder_7d493_13 : decode cJ0_coder_7d493 13 = .ok (.iconst 1, 1) := by decide +kernel
theorem dJ0_coder_7d493_14 : decode cJ0_coder_7d493 14 = .ok (.ireturn, 1) := by decide +kernel
theorem dJ0_isLatin1_aae02_0 : decode cJ0_isLatin1_aae02 0 = .ok (.getstatic 38, 3) := by decide +kernel
theorem dJ0_isLatin1_aae02_3 : decode cJ0_isLatin1_aae02 3 = .ok (.ifCond .eq 14, 3) := by decide +kernel
theorem dJ0_isLatin1_aae02_6 : decode cJ0_isLatin1_aae02 6 = .ok (.aload_n 0, 1) := by decide +kernel
theorem dJ0_isLatin1_aae02_7 : decode cJ0_isLatin1_aae02 7 = .ok (.getfield 15, 3) := by decide +kernel
theorem dJ0_isLatin1_aae02_10 : decode cJ0_isLatin1_aae02 10 = .ok (.ifCond .ne 7, 3) := by decide +kernel
theorem dJ0_isLatin1_aae02_13 : decode cJ0_isLatin1_aae02 13 = .ok (.iconst 1, 1) := by decide +kernel
theorem dJ0_isLatin1_aae02_14 : decode cJ0_isLatin1_aae02 14 = .ok (.goto 4, 3) := by decide +kernel
theorem dJ0_isLatin1_aae02_17 : decode cJ0_isLatin1_aae02 17 = .ok (.iconst 0, 1) := by decide +kernel
theorem dJ0_isLatin1_aae02_18 : decode cJ0_isLatin1_aae02 18 = .ok (.ireturn, 1) := by decide +kernel
theorem dJ0_checkIndex_df160_0 : decode cJ0_checkIndex_df160 0 = .ok (.iload_n 0, 1) := by decide +kernel
theorem dJ0_checkIndex_df160_1 : decode cJ0_checkIndex_df160 1 = .ok (.iload_n 1, 1) := by decide +kernel
theorem dJ0_checkIndex_df160_2 : decode cJ0_checkIndex_df160 2 = .ok (.getstatic 1053, 3) := by decide +kernel
theorem dJ0_checkIndex_df160_5 : decode cJ0_checkIndex_df160 5 = .ok (.invokestatic 1059, 3) := by decide +kernel
theorem dJ0_checkIndex_df160_8 : decode cJ0_checkIndex_df160 8 = .ok (.pop, 1) := by decide +kernel
theorem dJ0_checkIndex_df160_9 : decode cJ0_checkIndex_df160 9 = .ok (.return_, 1) := by decide +kernel
theorem dJ1_charAt_3b067_0 : decode cJ1_charAt_3b067 0 = .ok (.iload_n 1, 1) := by decide +kernel
theorem dJ1_charAt_3b067_1 : decode cJ1_charAt_3b067 1 = .ok (.aload_n 0, 1) := by decide +kernel
theorem dJ1_charAt_3b067_2 : decode cJ1_charAt_3b067 2 = .ok (.arraylength, 1) := by decide +kernel
theorem dJ1_charAt_3b067_3 : decode cJ1_charAt_3b067 3 = .ok (.invokestatic 9, 3) := by decide +kernel
theorem dJ1_charAt_3b067_6 : decode cJ1_charAt_3b067 6 = .ok (.aload_n 0, 1) := by decide +kernel
theorem dJ1_charAt_3b067_7 : decode cJ1_charAt_3b067 7 = .ok (.iload_n 1, 1) := by decide +kernel
theorem dJ1_charAt_3b067_8 : decode cJ1_charAt_3b067 8 = .ok (.baload, 1) := by decide +kernel
theorem dJ1_charAt_3b067_9 : decode cJ1_charAt_3b067 9 = .ok (.sipush 255, 3) := by decide +kernel
theorem dJ1_charAt_3b067_12 : decode cJ1_charAt_3b067 12 = .ok (.iand, 1) := by decide +kernel
theorem dJ1_charAt_3b067_13 : decode cJ1_charAt_3b067 13 = .ok (.i2c, 1) := by decide +kernel
theorem dJ1_charAt_3b067_14 : decode cJ1_charAt_3b067 14 = .ok (.ireturn, 1) := by decide +kernel
theorem dJ3_checkIndex_8e157_0 : decode cJ3_checkIndex_8e157 0 = .ok (.iload_n 0, 1) := by decide +kernel
theorem dJ3_checkIndex_8e157_1 : decode cJ3_checkIndex_8e157 1 = .ok (.ifCond .lt 8, 3) := by decide +kernel
theorem dJ3_checkIndex_8e157_4 : decode cJ3_checkIndex_8e157 4 = .ok (.iload_n 0, 1) := by decide +kernel
theorem dJ3_checkIndex_8e157_5 : decode cJ3_checkIndex_8e157 5 = .ok (.iload_n 1, 1) := by decide +kernel
theorem dJ3_checkIndex_8e157_6 : decode cJ3_checkIndex_8e157 6 = .ok (.if_icmp .lt 10, 3) := by decide +kernel
theorem dJ3_checkIndex_8e157_9 : decode cJ3_checkIndex_8e157 9 = .ok (.aload_n 2, 1) := by decide +kernel
theorem dJ3_checkIndex_8e157_10 : decode cJ3_checkIndex_8e157 10 = .ok (.iload_n 0, 1) := by decide +kernel
theorem dJ3_checkIndex_8e157_11 : decode cJ3_checkIndex_8e157 11 = .ok (.iload_n 1, 1) := by decide +kernel
theorem dJ3_checkIndex_8e157_12 : decode cJ3_checkIndex_8e157 12 = .ok (.invokestatic 95, 3) := by decide +kernel
theorem dJ3_checkIndex_8e157_15 : decode cJ3_checkIndex_8e157 15 = .ok (.athrow, 1) := by decide +kernel
theorem dJ3_checkIndex_8e157_16 : decode cJ3_checkIndex_8e157 16 = .ok (.iload_n 0, 1) := by decide +kernel
theorem dJ3_checkIndex_8e157_17 : decode cJ3_checkIndex_8e157 17 = .ok (.ireturn, 1) := by decide +kernel
def jBs : List Cond := [.fieldLink RJ0 38 RJ0 "COMPACT_STRINGS" "Z", .fieldLink RJ0 15 RJ0 "coder" "B", .fieldLink RJ0 9 RJ0 "value" "[B", .fieldLink RJ0 1053 RJ3 "SIOOBE_FORMATTER" "Ljava/util/function/BiFunction;",
  .methodLink RJ0 335 yJ0_coder_7d493, .methodLink RJ0 492 yJ0_isLatin1_aae02, .methodLink RJ0 495 yJ1_charAt_3b067, .methodLink RJ0 1059 yJ3_checkIndex_8e157, .methodLink RJ1 9 yJ0_checkIndex_df160, .methodLink RX3 102 yJ0_length_8abf5, .methodLink RX3 106 yJ0_charAt_5068e,
  .instanceMethod yJ0_coder_7d493, .instanceMethod yJ0_isLatin1_aae02, .instanceMethod yJ0_length_8abf5, .instanceMethod yJ0_charAt_5068e, .selects RJ0 yJ0_coder_7d493 yJ0_coder_7d493, .selects RJ0 yJ0_isLatin1_aae02 yJ0_isLatin1_aae02, .selects RJ0 yJ0_length_8abf5 yJ0_length_8abf5, .selects RJ0 yJ0_charAt_5068e yJ0_charAt_5068e,
  .static yJ1_charAt_3b067, .static yJ3_checkIndex_8e157, .static yJ0_checkIndex_df160, .initialized RJ0, .initialized RJ1, .initialized RJ3,
  .code yJ0_coder_7d493 cJ0_coder_7d493 1 (some .byte), .code yJ0_isLatin1_aae02 cJ0_isLatin1_aae02 1 (some .boolean), .code yJ0_length_8abf5 cJ0_length_8abf5 1 (some .int), .code yJ0_charAt_5068e cJ0_charAt_5068e 2 (some .char), .code yJ1_charAt_3b067 cJ1_charAt_3b067 2 (some .char), .code yJ0_checkIndex_df160 cJ0_checkIndex_df160 2 none, .code yJ3_checkIndex_8e157 cJ3_checkIndex_8e157 3 (some .int)]
theorem jB_ok : jBs.all (fun w => decide (w ∈ lw_tbl) && goodWord w) = true := by decide +kernel
theorem jB_in (k : Nat) {w : Cond} (h : jBs[k]? = some w) : w ∈ mgood := by
  have h2 := List.all_eq_true.mp jB_ok w (List.mem_of_getElem? h)
  simp only [Bool.and_eq_true, decide_eq_true_eq] at h2
  exact mem_good h2.1 h2.2
def roLen : List Nat := [5, 5, 4, 4, 4, 4, 3]
/-- the String constants at a state -/
def jZ (adK adV : Nat → Nat) (A : Nat → Prop) (U : State) : Prop :=
  vk_S 7 roLen roStr adK adV A U U.heap ∧ va_Z RJ0 "COMPACT_STRINGS" "Z" (.int 1) A U U.heap ∧ ∃ v : Value, v.category = 1 ∧ va_Z RJ3 "SIOOBE_FORMATTER" "Ljava/util/function/BiFunction;" v A U U.heap
theorem jZ.on {adK adV : Nat → Nat} {A : Nat → Prop} {s U : State} (hvm : s.vm.Alike U.vm) {H : Heap} {locs : List Loc} (hS : va_S A s.heap H locs) (hU : U.heap = H) (h : jZ adK adV A s) : jZ adK adV A U := by
  subst hU
  obtain ⟨h1, h2, v, h3, h4⟩ := h
  exact ⟨(h1.kept hS.2.1).moved hvm, (h2.kept hS.2.1).moved hvm, v, h3, (h4.kept hS.2.1).moved hvm⟩
def jRm (d : Nat) : Room := { frames := d + 1, cells := 0, slots := 0, locals := 40 + 80 * d }
def jW (y : MethodName) (bs : ByteArray) (n : Nat) (r : Option FieldType) : List Cond := Cond.code y bs n r :: mgood
theorem jW_good {y : MethodName} {bs : ByteArray} {n : Nat} {r : Option FieldType} (h : Cond.code y bs n r ∈ mgood) : GoodIn mgood (jW y bs n r) := fun w hw => by
  rcases List.mem_cons.mp hw with q | q
  · rw [q]; exact mgood_self _ h
  · exact mgood_self _ q
def jPc (adK adV : Nat → Nat) (B : Nat) (as : List Value) : Array Value → State → Prop := va_Pc as (fun U => jZ adK adV (fun q => B ≤ q) U)
def jQc (v : Option Value) : Array Value → State → Outcome → State → Prop := fun _ st oc t => oc = .returned v ∧ t.heap = st.heap
theorem jPc.blind {adK adV : Nat → Nat} {B : Nat} {as : List Value} : FrameBlind (jPc adK adV B as) := by
  intro a U g mk q
  exact ⟨q.1, q.2.on (U := U.calling g mk a) (Vm.Alike.refl U.vm) va_S.rf rfl⟩
theorem jL {as : List Value} {n : Nat} (h : (lg_sl as).length ≤ n) : ∀ q ∈ lv_args 0 as, ((lg_sl as ++ List.replicate (n - (lg_sl as).length) Slot.unset).toArray)[q.1]? = some (.val q.2) := fun q hq => (lv_entry as h).2.2 q hq
theorem jLs {as : List Value} {n : Nat} (h : (lg_sl as).length ≤ n) : ((lg_sl as ++ List.replicate (n - (lg_sl as).length) Slot.unset).toArray).size = n := (lv_entry as h).1
section JDK
variable {p : Program} {l : Launch} {e : Env} {R : Room} {s : State} {m : MethodId} {args : Array Value} {below : List Frame} {meth : Method} {c : Code} {H : Heap} {locs : List Loc} {nc ns : Nat} {Q : State → Prop} {pc : Nat} {ls : Array Slot}
variable {adK adV : Nat → Nat} {B i : Nat}
/-- behind a call that writes nothing -/
theorem j_back {v : Option Value} {a : Array Value} {A : Nat → Prop} {H0 : Heap} {st0 rest : List Value} (hS : va_S A H0 H locs) (hr : va_Run p l e R s m args below meth c H locs nc ns 0 0 (F0 m pc ls st0) rest (jQc v a) A)
    (k : ∀ locs', va_S A H0 H locs' → W p l e R s m args below meth c H locs' nc ns Q (F0 m (pc + 3) ls (v.toList ++ rest))) : W p l e R s m args below meth c H locs nc ns Q (F0 m pc ls st0) := by
  intro T hT X
  obtain ⟨v', st₀, t, T', L, h0, X', hL, e1, e2, ⟨hv, hm⟩, st⟩ := hr T hT X
  cases hv
  have hS' : va_S A H0 H (locs ++ L) := by
    refine ⟨hS.1, hS.2.1, fun q hq => ?_⟩
    rcases List.mem_append.mp hq with h | h
    · exact hS.2.2 q h
    · exact hL q h
  obtain ⟨t2, a1, b1⟩ := k (locs ++ L) hS' T' (by rw [e1, hm, h0]) X'
  exact ⟨t2, st t2 a1, b1⟩
theorem j_key {A : Nat → Prop} (hZ : jZ adK adV A s) (hS : va_S A s.heap H locs) : ∀ U : State, U.heap = H → s.WarmedH U.vm → jZ adK adV A U := fun U hU hW => hZ.on hW.alike hS hU
theorem j_isLatin1 (hi : i < 7) : Met l yJ0_isLatin1_aae02 (jW yJ0_isLatin1_aae02 cJ0_isLatin1_aae02 1 (some .boolean)) (jRm 0) (jPc adK adV B [.ref (adK i)]) (jQc (some (.int 1))) 0 0 (fun q => B ≤ q) := by
  refine Met.ofW (cc := cJ0_isLatin1_aae02) (maxL := 1) (ret := some .boolean) (by decide) rfl ?_
  intro p e s m args below meth c s₁ Bd hml hv
  obtain ⟨rfl, hZ⟩ := hv
  have hts : ∀ w ∈ mgood, w.before [Value.ref (adK i)].toArray s = true := fun w hw => atoms_spec (ws := jW yJ0_isLatin1_aae02 cJ0_isLatin1_aae02 1 (some .boolean)) Bd.pre w (List.mem_cons_of_mem _ hw)
  have hown : s.vm.findClass RJ0 = some m.cls := findClass_of_methodNamed Bd.named
  rw [lg_entry_eq]
  have h0 := jL (as := [Value.ref (adK i)]) (n := 1) (Nat.le_refl _) (0, .ref (adK i)) (List.mem_cons_self)
  have hS : va_S (fun q => B ≤ q) s.heap s.heap [] := va_S.rf
  refine va_gets Bd.exec Bd.bytes hZ.2.1 hS hown (hts _ (jB_in 0 rfl)) (fun x h => h) dJ0_isLatin1_aae02_0 ?_
  refine lv_if_eq (tgt := 17) Bd.exec Bd.bytes dJ0_isLatin1_aae02_3 rfl (fun h => absurd h (by decide)) (fun _ => ?_)
  refine lv_aload_n Bd.exec Bd.bytes dJ0_isLatin1_aae02_6 rfl h0 ?_
  refine vk_getf Bd.exec Bd.bytes (hZ.1.1 i hi).2.1 hS hown (hts _ (jB_in 1 rfl)) (fun x h => h) dJ0_isLatin1_aae02_7 ?_
  refine lv_if_ne (tgt := 17) Bd.exec Bd.bytes dJ0_isLatin1_aae02_10 rfl (fun h => absurd rfl h) (fun _ => ?_)
  refine lv_iconst Bd.exec Bd.bytes dJ0_isLatin1_aae02_13 rfl ?_
  refine lv_goto (tgt := 18) Bd.exec Bd.bytes dJ0_isLatin1_aae02_14 rfl ?_
  exact W.zret Bd.exec Bd.bytes Bd.returns (by decide +kernel) (fun t ht _ => ⟨rfl, ht⟩) (fun q w => by cases w) dJ0_isLatin1_aae02_18 Bd.notSynchronized
theorem j_coder (hi : i < 7) : Met l yJ0_coder_7d493 (jW yJ0_coder_7d493 cJ0_coder_7d493 1 (some .byte)) (jRm 0) (jPc adK adV B [.ref (adK i)]) (jQc (some (.int 0))) 0 0 (fun q => B ≤ q) := by
  refine Met.ofW (cc := cJ0_coder_7d493) (maxL := 1) (ret := some .byte) (by decide) rfl ?_
  intro p e s m args below meth c s₁ Bd hml hv
  obtain ⟨rfl, hZ⟩ := hv
  have hts : ∀ w ∈ mgood, w.before [Value.ref (adK i)].toArray s = true := fun w hw => atoms_spec (ws := jW yJ0_coder_7d493 cJ0_coder_7d493 1 (some .byte)) Bd.pre w (List.mem_cons_of_mem _ hw)
  have hown : s.vm.findClass RJ0 = some m.cls := findClass_of_methodNamed Bd.named
  rw [lg_entry_eq]
  have h0 := jL (as := [Value.ref (adK i)]) (n := 1) (Nat.le_refl _) (0, .ref (adK i)) (List.mem_cons_self)
  have hS : va_S (fun q => B ≤ q) s.heap s.heap [] := va_S.rf
  refine va_gets Bd.exec Bd.bytes hZ.2.1 hS hown (hts _ (jB_in 0 rfl)) (fun x h => h) dJ0_coder_7d493_0 ?_
  refine lv_if_eq (tgt := 13) Bd.exec Bd.bytes dJ0_coder_7d493_3 rfl (fun h => absurd h (by decide)) (fun _ => ?_)
  refine lv_aload_n Bd.exec Bd.bytes dJ0_coder_7d493_6 rfl h0 ?_
  refine vk_getf Bd.exec Bd.bytes (hZ.1.1 i hi).2.1 hS hown (hts _ (jB_in 1 rfl)) (fun x h => h) dJ0_coder_7d493_7 ?_
  refine lv_goto (tgt := 14) Bd.exec Bd.bytes dJ0_coder_7d493_10 rfl ?_
  exact W.zret Bd.exec Bd.bytes Bd.returns (by decide +kernel) (fun t ht _ => ⟨rfl, ht⟩) (fun q w => by cases w) dJ0_coder_7d493_14 Bd.notSynchronized
theorem j_pcheck {x n : Int32} {v : Value} (hv1 : v.category = 1) (h0 : ¬ x < 0) (hn : x < n) : Met l yJ3_checkIndex_8e157 (jW yJ3_checkIndex_8e157 cJ3_checkIndex_8e157 3 (some .int)) (jRm 0) (jPc adK adV B [.int x, .int n, v]) (jQc (some (.int x))) 0 0 (fun q => B ≤ q) := by
  refine Met.ofW (cc := cJ3_checkIndex_8e157) (maxL := 3) (ret := some .int) (by decide) rfl ?_
  intro p e s m args below meth c s₁ Bd hml hv
  obtain ⟨rfl, hZ⟩ := hv
  rw [lg_entry_eq]
  have hlen : (lg_sl [Value.int x, Value.int n, v]).length ≤ 3 := by
    have e : ∀ w : Value, w.category = 1 → (lg_sl [Value.int x, Value.int n, w]).length = 3 := fun w hw => by cases w <;> first | rfl | cases hw
    rw [e v hv1]; exact Nat.le_refl 3
  have l0 := jL (as := [Value.int x, Value.int n, v]) (n := 3) hlen (0, .int x) (List.mem_cons_self)
  have l1 := jL (as := [Value.int x, Value.int n, v]) (n := 3) hlen (1, .int n) (List.mem_cons_of_mem _ List.mem_cons_self)
  refine lv_iload_n Bd.exec Bd.bytes dJ3_checkIndex_8e157_0 rfl l0 ?_
  refine lv_if_lt (tgt := 9) Bd.exec Bd.bytes dJ3_checkIndex_8e157_1 rfl (fun h => absurd h h0) (fun _ => ?_)
  refine lv_iload_n Bd.exec Bd.bytes dJ3_checkIndex_8e157_4 rfl l0 ?_
  refine lv_iload_n Bd.exec Bd.bytes dJ3_checkIndex_8e157_5 rfl l1 ?_
  refine lv_icmp_lt (tgt := 16) Bd.exec Bd.bytes dJ3_checkIndex_8e157_6 rfl (fun _ => ?_) (fun h => absurd hn h)
  refine lv_iload_n Bd.exec Bd.bytes dJ3_checkIndex_8e157_16 rfl l0 ?_
  exact W.iret Bd.exec Bd.bytes Bd.returns (fun t ht _ => ⟨rfl, ht⟩) (fun q w => by cases w) dJ3_checkIndex_8e157_17 Bd.notSynchronized
theorem j_scheck {x n : Int32} (h0 : ¬ x < 0) (hn : x < n) : Met l yJ0_checkIndex_df160 (jW yJ0_checkIndex_df160 cJ0_checkIndex_df160 2 none) (jRm 1) (jPc adK adV B [.int x, .int n]) (jQc none) 0 0 (fun q => B ≤ q) := by
  refine Met.ofW (cc := cJ0_checkIndex_df160) (maxL := 2) (ret := none) (by decide) rfl ?_
  intro p e s m args below meth c s₁ Bd hml hv
  obtain ⟨rfl, hZ⟩ := hv
  have hts : ∀ w ∈ mgood, w.before [Value.int x, Value.int n].toArray s = true := fun w hw => atoms_spec (ws := jW yJ0_checkIndex_df160 cJ0_checkIndex_df160 2 none) Bd.pre w (List.mem_cons_of_mem _ hw)
  have hown : s.vm.findClass RJ0 = some m.cls := findClass_of_methodNamed Bd.named
  rw [lg_entry_eq]
  have l0 := jL (as := [Value.int x, Value.int n]) (n := 2) (Nat.le_refl _) (0, .int x) (List.mem_cons_self)
  have l1 := jL (as := [Value.int x, Value.int n]) (n := 2) (Nat.le_refl _) (1, .int n) (List.mem_cons_of_mem _ List.mem_cons_self)
  have hls := jLs (as := [Value.int x, Value.int n]) (n := 2) (Nat.le_refl _)
  have hS : va_S (fun q => B ≤ q) s.heap s.heap [] := va_S.rf
  obtain ⟨v, hv1, hv2⟩ := hZ.2.2
  refine lv_iload_n Bd.exec Bd.bytes dJ0_checkIndex_df160_0 rfl l0 ?_
  refine lv_iload_n Bd.exec Bd.bytes dJ0_checkIndex_df160_1 rfl l1 ?_
  refine va_gets Bd.exec Bd.bytes hv2 hS hown (hts _ (jB_in 3 rfl)) (fun x h => h) dJ0_checkIndex_df160_2 ?_
  have cb := callB_of (R := jRm 1) (own := RJ0) (index := 1059) (y := yJ3_checkIndex_8e157) (bytes := cJ3_checkIndex_8e157) (maxL := 3) (ret := some .int) (ws := jW yJ3_checkIndex_8e157 cJ3_checkIndex_8e157 3 (some .int)) (ws' := mgood) (rm := jRm 0) (mc := 0) (ms := 0) 3 hts (jW_good (jB_in 31 rfl)) rfl rfl rfl (hts _ (jB_in 24 rfl)) (hts _ (jB_in 7 rfl)) ⟨by decide, by decide, by decide +kernel⟩ (by decide)
  refine j_back hS (va_runS (S := ⟨Bd.exec, Bd.bytes, hml, hown, hts⟩) (j_pcheck (adK := adK) (adV := adV) (B := B) hv1 h0 hn) ⟨cb, hts _ (jB_in 20 rfl)⟩ ⟨jPc.blind, fun U hU hW => ⟨rfl, j_key hZ hS U hU hW⟩⟩ rfl rfl hls (As := [.int x, .int n, v]) (rest := []) rfl (lv_room (by decide)) dJ0_checkIndex_df160_5 ⟨by decide, by decide⟩) (fun locs' hS' => ?_)
  refine lv_pop (va := .int x) Bd.exec Bd.bytes dJ0_checkIndex_df160_8 rfl ?_
  exact W.vret Bd.exec Bd.bytes Bd.returns (fun t ht _ => ⟨rfl, ht⟩) hS'.2.2 dJ0_checkIndex_df160_9 Bd.notSynchronized
theorem ro_len (hi : i < 7) : roLen.getD i 0 = (roStr.getD i []).length := by
  match i, hi with
  | 0, _ => rfl
  | 1, _ => rfl
  | 2, _ => rfl
  | 3, _ => rfl
  | 4, _ => rfl
  | 5, _ => rfl
  | 6, _ => rfl
theorem ro_char : roStr.all (fun t => t.all (fun x => decide (((x &&& 255).toUInt32 % 65536).toInt32 = x) && decide (narrow .char (.int x) = .int x))) = true := by decide +kernel
theorem getD_in {l : List Int32} {j : Nat} (h : j < l.length) : l.getD j 0 ∈ l := by
  rw [List.getD_eq_getElem?_getD, List.getElem?_eq_getElem h]; exact List.getElem_mem _
theorem ro_ch {j : Nat} (hi : i < 7) (hj : j < (roStr.getD i []).length) : (((roStr.getD i []).getD j 0 &&& 255).toUInt32 % 65536).toInt32 = (roStr.getD i []).getD j 0 ∧ narrow .char (.int ((roStr.getD i []).getD j 0)) = .int ((roStr.getD i []).getD j 0) := by
  have h1 : roStr.getD i [] ∈ roStr := by
    have hi' : i < roStr.length := hi
    rw [List.getD_eq_getElem?_getD, List.getElem?_eq_getElem hi']; exact List.getElem_mem _
  have h2 := List.all_eq_true.mp ro_char _ h1
  have h3 : (roStr.getD i []).getD j 0 ∈ roStr.getD i [] := getD_in hj
  have h4 := List.all_eq_true.mp h2 _ h3
  simp only [Bool.and_eq_true, decide_eq_true_eq] at h4
  exact h4
theorem ro_small (hi : i < 7) : (roStr.getD i []).length < 2 ^ 31 := by
  rw [← ro_len hi]
  match i, hi with
  | 0, _ => decide
  | 1, _ => decide
  | 2, _ => decide
  | 3, _ => decide
  | 4, _ => decide
  | 5, _ => decide
  | 6, _ => decide
theorem j_lat {x : Int32} {j : Nat} (hi : i < 7) (hx : midx x (roStr.getD i []).length = some j) : Met l yJ1_charAt_3b067 (jW yJ1_charAt_3b067 cJ1_charAt_3b067 2 (some .char)) (jRm 2) (jPc adK adV B [.ref (adV i), .int x]) (jQc (some (.int ((roStr.getD i []).getD j 0)))) 0 0 (fun q => B ≤ q) := by
  refine Met.ofW (cc := cJ1_charAt_3b067) (maxL := 2) (ret := some .char) (by decide) rfl ?_
  intro p e s m args below meth c s₁ Bd hml hv
  obtain ⟨rfl, hZ⟩ := hv
  have hts : ∀ w ∈ mgood, w.before [Value.ref (adV i), Value.int x].toArray s = true := fun w hw => atoms_spec (ws := jW yJ1_charAt_3b067 cJ1_charAt_3b067 2 (some .char)) Bd.pre w (List.mem_cons_of_mem _ hw)
  have hown : s.vm.findClass RJ1 = some m.cls := findClass_of_methodNamed Bd.named
  rw [lg_entry_eq]
  have l0 := jL (as := [Value.ref (adV i), Value.int x]) (n := 2) (Nat.le_refl _) (0, .ref (adV i)) (List.mem_cons_self)
  have l1 := jL (as := [Value.ref (adV i), Value.int x]) (n := 2) (Nat.le_refl _) (1, .int x) (List.mem_cons_of_mem _ List.mem_cons_self)
  have hls := jLs (as := [Value.ref (adV i), Value.int x]) (n := 2) (Nat.le_refl _)
  have hS : va_S (fun q => B ≤ q) s.heap s.heap [] := va_S.rf
  obtain ⟨hin, hjx, hjn⟩ := midx_inv hx
  have hT := (hZ.1.1 i hi).2.2.2
  rw [ro_len hi] at hT
  have h0 : ¬ x < 0 := fun h => hin (Or.inl h)
  have hn : x < Int32.ofNat (roStr.getD i []).length := by
    rw [Int32.lt_iff_toInt_lt]
    have e1 : x.toInt = ((x.toNatClampNeg : Nat) : Int) := by
      have hz0 : (0 : Int) ≤ x.toInt := by
        have := Int32.not_lt.mp h0
        simpa using Int32.le_iff_toInt_le.mp this
      show x.toInt = ((x.toInt.toNat : Nat) : Int)
      omega
    have e2 : (Int32.ofNat (roStr.getD i []).length).toInt = ((roStr.getD i []).length : Int) := Int32.toInt_ofNat_of_lt (ro_small hi)
    rw [e1, e2, hjx]
    exact Int.ofNat_lt.mpr hjn
  refine lv_iload_n Bd.exec Bd.bytes dJ1_charAt_3b067_0 rfl l1 ?_
  refine lv_aload_n Bd.exec Bd.bytes dJ1_charAt_3b067_1 rfl l0 ?_
  refine va_tlen Bd.exec Bd.bytes hT hS rfl dJ1_charAt_3b067_2 ?_
  have cb := callB_of (R := jRm 2) (own := RJ1) (index := 9) (y := yJ0_checkIndex_df160) (bytes := cJ0_checkIndex_df160) (maxL := 2) (ret := none) (ws := jW yJ0_checkIndex_df160 cJ0_checkIndex_df160 2 none) (ws' := mgood) (rm := jRm 1) (mc := 0) (ms := 0) 2 hts (jW_good (jB_in 30 rfl)) rfl rfl rfl (hts _ (jB_in 22 rfl)) (hts _ (jB_in 8 rfl)) ⟨by decide, by decide, by decide +kernel⟩ (by decide)
  refine j_back hS (va_runS (S := ⟨Bd.exec, Bd.bytes, hml, hown, hts⟩) (j_scheck (adK := adK) (adV := adV) (B := B) h0 hn) ⟨cb, hts _ (jB_in 21 rfl)⟩ ⟨jPc.blind, fun U hU hW => ⟨rfl, j_key hZ hS U hU hW⟩⟩ rfl rfl hls (As := [.int x, .int (Int32.ofNat (roStr.getD i []).length)]) (rest := []) rfl (lv_room (by decide)) dJ1_charAt_3b067_3 ⟨by decide, by decide⟩) (fun locs' hS' => ?_)
  refine lv_aload_n Bd.exec Bd.bytes dJ1_charAt_3b067_6 rfl l0 ?_
  refine lv_iload_n Bd.exec Bd.bytes dJ1_charAt_3b067_7 rfl l1 ?_
  refine va_tb Bd.exec Bd.bytes hT hS' hin (v := .int ((roStr.getD i []).getD j 0)) (by rw [hjx]) dJ1_charAt_3b067_8 ?_
  refine lv_sipush Bd.exec Bd.bytes dJ1_charAt_3b067_9 rfl ?_
  refine lv_iand Bd.exec Bd.bytes dJ1_charAt_3b067_12 ?_
  refine lv_i2c Bd.exec Bd.bytes dJ1_charAt_3b067_13 rfl ?_
  obtain ⟨c1, c2⟩ := ro_ch (i := i) hi hjn
  have e : (((roStr.getD i []).getD j 0 &&& (Int16.ofInt 255).toInt32).toUInt32 % 65536).toInt32 = (roStr.getD i []).getD j 0 := c1
  rw [e]
  exact W.zret Bd.exec Bd.bytes Bd.returns c2 (fun t ht _ => ⟨rfl, ht⟩) hS'.2.2 dJ1_charAt_3b067_14 Bd.notSynchronized
theorem ro_shr : (List.range 7).all (fun i => decide (Int32.ofNat (roStr.getD i []).length >>> ((0 : Int32) &&& 31) = Int32.ofNat (roStr.getD i []).length)) = true := by decide +kernel
theorem j_length (hi : i < 7) : Met l yJ0_length_8abf5 (jW yJ0_length_8abf5 cJ0_length_8abf5 1 (some .int)) (jRm 1) (jPc adK adV B [.ref (adK i)]) (jQc (some (.int (Int32.ofNat (roStr.getD i []).length)))) 0 0 (fun q => B ≤ q) := by
  refine Met.ofW (cc := cJ0_length_8abf5) (maxL := 1) (ret := some .int) (by decide) rfl ?_
  intro p e s m args below meth c s₁ Bd hml hv
  obtain ⟨rfl, hZ⟩ := hv
  have hts : ∀ w ∈ mgood, w.before [Value.ref (adK i)].toArray s = true := fun w hw => atoms_spec (ws := jW yJ0_length_8abf5 cJ0_length_8abf5 1 (some .int)) Bd.pre w (List.mem_cons_of_mem _ hw)
  have hown : s.vm.findClass RJ0 = some m.cls := findClass_of_methodNamed Bd.named
  rw [lg_entry_eq]
  have l0 := jL (as := [Value.ref (adK i)]) (n := 1) (Nat.le_refl _) (0, .ref (adK i)) (List.mem_cons_self)
  have hls := jLs (as := [Value.ref (adK i)]) (n := 1) (Nat.le_refl _)
  have hS : va_S (fun q => B ≤ q) s.heap s.heap [] := va_S.rf
  have hT := (hZ.1.1 i hi).2.2.2
  rw [ro_len hi] at hT
  refine lv_aload_n Bd.exec Bd.bytes dJ0_length_8abf5_0 rfl l0 ?_
  refine vk_getf Bd.exec Bd.bytes (hZ.1.1 i hi).2.2.1 hS hown (hts _ (jB_in 2 rfl)) (fun x h => h) dJ0_length_8abf5_1 ?_
  refine va_tlen Bd.exec Bd.bytes hT hS rfl dJ0_length_8abf5_4 ?_
  refine lv_aload_n Bd.exec Bd.bytes dJ0_length_8abf5_5 rfl l0 ?_
  have cb := callB_of (R := jRm 1) (own := RJ0) (index := 335) (y := yJ0_coder_7d493) (bytes := cJ0_coder_7d493) (maxL := 1) (ret := some .byte) (ws := jW yJ0_coder_7d493 cJ0_coder_7d493 1 (some .byte)) (ws' := mgood) (rm := jRm 0) (mc := 0) (ms := 0) 0 hts (jW_good (jB_in 25 rfl)) rfl rfl rfl (hts _ (jB_in 22 rfl)) (hts _ (jB_in 4 rfl)) ⟨by decide, by decide, by decide +kernel⟩ (by decide)
  refine j_back hS (va_runV (S := ⟨Bd.exec, Bd.bytes, hml, hown, hts⟩) (j_coder (adK := adK) (adV := adV) (B := B) hi) ⟨cb, hts _ (jB_in 11 rfl), hts _ (jB_in 15 rfl)⟩ ⟨jPc.blind, vk_recv hZ.1 hi hS, fun U hU hW => ⟨rfl, j_key hZ hS U hU hW⟩⟩ rfl rfl hls (As := []) (rest := [.int (Int32.ofNat (roStr.getD i []).length)]) rfl (lv_room (show 1 + 0 ≤ 8 by decide)) dJ0_length_8abf5_6 ⟨by decide, by decide⟩) (fun locs' hS' => ?_)
  refine lv_ishr Bd.exec Bd.bytes dJ0_length_8abf5_9 ?_
  have e : Int32.ofNat (roStr.getD i []).length >>> ((0 : Int32) &&& 31) = Int32.ofNat (roStr.getD i []).length := of_decide_eq_true (List.all_eq_true.mp ro_shr i (List.mem_range.mpr hi))
  rw [e]
  exact W.iret Bd.exec Bd.bytes Bd.returns (fun t ht _ => ⟨rfl, ht⟩) hS'.2.2 dJ0_length_8abf5_10 Bd.notSynchronized
theorem j_charAt {x : Int32} {j : Nat} (hi : i < 7) (hx : midx x (roStr.getD i []).length = some j) : Met l yJ0_charAt_5068e (jW yJ0_charAt_5068e cJ0_charAt_5068e 2 (some .char)) (jRm 3) (jPc adK adV B [.ref (adK i), .int x]) (jQc (some (.int ((roStr.getD i []).getD j 0)))) 0 0 (fun q => B ≤ q) := by
  refine Met.ofW (cc := cJ0_charAt_5068e) (maxL := 2) (ret := some .char) (by decide) rfl ?_
  intro p e s m args below meth c s₁ Bd hml hv
  obtain ⟨rfl, hZ⟩ := hv
  have hts : ∀ w ∈ mgood, w.before [Value.ref (adK i), Value.int x].toArray s = true := fun w hw => atoms_spec (ws := jW yJ0_charAt_5068e cJ0_charAt_5068e 2 (some .char)) Bd.pre w (List.mem_cons_of_mem _ hw)
  have hown : s.vm.findClass RJ0 = some m.cls := findClass_of_methodNamed Bd.named
  rw [lg_entry_eq]
  have l0 := jL (as := [Value.ref (adK i), Value.int x]) (n := 2) (Nat.le_refl _) (0, .ref (adK i)) (List.mem_cons_self)
  have l1 := jL (as := [Value.ref (adK i), Value.int x]) (n := 2) (Nat.le_refl _) (1, .int x) (List.mem_cons_of_mem _ List.mem_cons_self)
  have hls := jLs (as := [Value.ref (adK i), Value.int x]) (n := 2) (Nat.le_refl _)
  have hS : va_S (fun q => B ≤ q) s.heap s.heap [] := va_S.rf
  refine lv_aload_n Bd.exec Bd.bytes dJ0_charAt_5068e_0 rfl l0 ?_
  have cb := callB_of (R := jRm 3) (own := RJ0) (index := 492) (y := yJ0_isLatin1_aae02) (bytes := cJ0_isLatin1_aae02) (maxL := 1) (ret := some .boolean) (ws := jW yJ0_isLatin1_aae02 cJ0_isLatin1_aae02 1 (some .boolean)) (ws' := mgood) (rm := jRm 0) (mc := 0) (ms := 0) 0 hts (jW_good (jB_in 26 rfl)) rfl rfl rfl (hts _ (jB_in 22 rfl)) (hts _ (jB_in 5 rfl)) ⟨by decide, by decide, by decide +kernel⟩ (by decide)
  refine j_back hS (va_runV (S := ⟨Bd.exec, Bd.bytes, hml, hown, hts⟩) (j_isLatin1 (adK := adK) (adV := adV) (B := B) hi) ⟨cb, hts _ (jB_in 12 rfl), hts _ (jB_in 16 rfl)⟩ ⟨jPc.blind, vk_recv hZ.1 hi hS, fun U hU hW => ⟨rfl, j_key hZ hS U hU hW⟩⟩ rfl rfl hls (As := []) (rest := []) rfl (lv_room (by decide)) dJ0_charAt_5068e_1 ⟨by decide, by decide⟩) (fun locs' hS' => ?_)
  refine lv_if_eq (tgt := 16) Bd.exec Bd.bytes dJ0_charAt_5068e_4 rfl (fun h => absurd h (by decide)) (fun _ => ?_)
  refine lv_aload_n Bd.exec Bd.bytes dJ0_charAt_5068e_7 rfl l0 ?_
  refine vk_getf Bd.exec Bd.bytes (hZ.1.1 i hi).2.2.1 hS' hown (hts _ (jB_in 2 rfl)) (fun x h => h) dJ0_charAt_5068e_8 ?_
  refine lv_iload_n Bd.exec Bd.bytes dJ0_charAt_5068e_11 rfl l1 ?_
  have cb := callB_of (R := jRm 3) (own := RJ0) (index := 495) (y := yJ1_charAt_3b067) (bytes := cJ1_charAt_3b067) (maxL := 2) (ret := some .char) (ws := jW yJ1_charAt_3b067 cJ1_charAt_3b067 2 (some .char)) (ws' := mgood) (rm := jRm 2) (mc := 0) (ms := 0) 2 hts (jW_good (jB_in 29 rfl)) rfl rfl rfl (hts _ (jB_in 23 rfl)) (hts _ (jB_in 6 rfl)) ⟨by decide, by decide, by decide +kernel⟩ (by decide)
  refine j_back hS' (va_runS (S := ⟨Bd.exec, Bd.bytes, hml, hown, hts⟩) (j_lat (adK := adK) (adV := adV) (B := B) hi hx) ⟨cb, hts _ (jB_in 19 rfl)⟩ ⟨jPc.blind, fun U hU hW => ⟨rfl, j_key hZ hS' U hU hW⟩⟩ rfl rfl hls (As := [.ref (adV i), .int x]) (rest := []) rfl (lv_room (by decide)) dJ0_charAt_5068e_12 ⟨by decide, by decide⟩) (fun locs' hS' => ?_)
  obtain ⟨-, -, hjn⟩ := midx_inv hx
  exact W.zret Bd.exec Bd.bytes Bd.returns (ro_ch hi hjn).2 (fun t ht _ => ⟨rfl, ht⟩) hS'.2.2 dJ0_charAt_5068e_15 Bd.notSynchronized
end JDK
end Q12
section Q13
set_option maxRecDepth 100000 in
theorem mdk : ∀ y, y < 185 → (mcode y).all (fun e => decide (decode (mbytes y) e.1 = .ok (e.2.1, e.2.2.1))) = true := lt_s (lt_s (lt_s (lt_s (lt_s (lt_s (lt_s (lt_s (lt_s (lt_s (lt_s (lt_s (lt_s (lt_s (lt_s (lt_s (lt_s (lt_s (lt_s (lt_s (lt_s (lt_s (lt_s (lt_s (lt_s (lt_s (lt_s (lt_s (lt_s (lt_s (lt_s (lt_s (lt_s (lt_s (lt_s (lt_s (lt_s (lt_s (lt_s (lt_s (lt_s (lt_s (lt_s (lt_s (lt_s (lt_s (lt_s (lt_s (lt_s (lt_s (lt_s (lt_s (lt_s (lt_s (lt_s (lt_s (lt_s (lt_s (lt_s (lt_s (lt_s (lt_s (lt_s (lt_s (lt_s (lt_s (lt_s (lt_s (lt_s (lt_s (lt_s (lt_s (lt_s (lt_s (lt_s (lt_s (lt_s (lt_s (lt_s (lt_s (lt_s (lt_s (lt_s (lt_s (lt_s (lt_s (lt_s (lt_s (lt_s (lt_s (lt_s (lt_s (lt_s (lt_s (lt_s (lt_s (lt_s (lt_s (lt_s (lt_s (lt_s (lt_s (lt_s (lt_s (lt_s (lt_s (lt_s (lt_s (lt_s (lt_s (lt_s (lt_s (lt_s (lt_s (lt_s (lt_s (lt_s (lt_s (lt_s (lt_s (lt_s (lt_s (lt_s (lt_s (lt_s (lt_s (lt_s (lt_s (lt_s (lt_s (lt_s (lt_s (lt_s (lt_s (lt_s (lt_s (lt_s (lt_s (lt_s (lt_s (lt_s (lt_s (lt_s (lt_s (lt_s (lt_s (lt_s (lt_s (lt_s (lt_s (lt_s (lt_s (lt_s (lt_s (lt_s (lt_s (lt_s (lt_s (lt_s (lt_s (lt_s (lt_s (lt_s (lt_s (lt_s (lt_s (lt_s (lt_s (lt_s (lt_s (lt_s (lt_s (lt_s (lt_s (lt_s (lt_s (lt_s (lt_s (lt_s (lt_s (lt_s (lt_s (lt_s (lt_s (lt_s (lt_0) dk_0) dk_1) dk_2) dk_3) dk_4) dk_5) dk_6) dk_7) dk_8) dk_9) dk_10) dk_11) dk_12) dk_13) dk_14) dk_15) dk_16) dk_17) dk_18) dk_19) dk_20) dk_21) dk_22) dk_23) dk_24) dk_25) dk_26) dk_27) dk_28) dk_29) dk_30) dk_31) dk_32) dk_33) dk_34) dk_35) dk_36) dk_37) dk_38) dk_39) dk_40) dk_41) dk_42) dk_43) dk_44) dk_45) dk_46) dk_47) dk_48) dk_49) dk_50) dk_51) dk_52) dk_53) dk_54) dk_55) dk_56) dk_57) dk_58) dk_59) dk_60) dk_61) dk_62) dk_63) dk_64) dk_65) dk_66) dk_67) dk_68) dk_69) dk_70) dk_71) dk_72) dk_73) dk_74) dk_75) dk_76) dk_77) dk_78) dk_79) dk_80) dk_81) dk_82) dk_83) dk_84) dk_85) dk_86) dk_87) dk_88) dk_89) dk_90) dk_91) dk_92) dk_93) dk_94) dk_95) dk_96) dk_97) dk_98) dk_99) dk_100) dk_101) dk_102) dk_103) dk_104) dk_105) dk_106) dk_107) dk_108) dk_109) dk_110) dk_111) dk_112) dk_113) dk_114) dk_115) dk_116) dk_117) dk_118) dk_119) dk_120) dk_121) dk_122) dk_123) dk_124) dk_125) dk_126) dk_127) dk_128) dk_129) dk_130) dk_131) dk_132) dk_133) dk_134) dk_135) dk_136) dk_137) dk_138) dk_139) dk_140) dk_141) dk_142) dk_143) dk_144) dk_145) dk_146) dk_147) dk_148) dk_149) dk_150) dk_151) dk_152) dk_153) dk_154) dk_155) dk_156) dk_157) dk_158) dk_159) dk_160) dk_161) dk_162) dk_163) dk_164) dk_165) dk_166) dk_167) dk_168) dk_169) dk_170) dk_171) dk_172) dk_173) dk_174) dk_175) dk_176) dk_177) dk_178) dk_179) dk_180) dk_181) dk_182) dk_183) dk_184
theorem mcode_lt {y : Nat} {e : mI} (h : e ∈ mcode y) : y < 185 := by
  rcases Nat.lt_or_ge y 185 with q | q
  · exact q
  · have hb : Nat.blt y 185 = false := by
      cases e : Nat.blt y 185 with
      | false => rfl
      | true => exact absurd (Nat.le_of_ble_eq_true e) (Nat.not_le.mpr (Nat.lt_succ_of_le q))
    rw [mcode, hb, cond_false] at h
    exact absurd h List.not_mem_nil
theorem mfetch_inv {y pc : Nat} {e : mI} (h : mfetch y pc = some e) : e.1 = pc ∧ decode (mbytes y) pc = .ok (e.2.1, e.2.2.1) ∧ mchk y e = true := by
  have h1 : e ∈ mcode y := List.mem_of_find?_eq_some h
  have h0 : (mcode y).find? (fun e => Nat.beq e.1 pc) = some e := h
  have h9 := List.find?_some h0
  have h2 : e.1 = pc := Nat.eq_of_beq_eq_true h9
  have hy := mcode_lt h1
  refine ⟨h2, ?_, ?_⟩
  · have h3 := List.all_eq_true.mp (mdk y hy) e h1
    rw [← h2]
    exact of_decide_eq_true h3
  · have h3 := List.all_eq_true.mp mchk_ok y (List.mem_range.mpr hy)
    exact List.all_eq_true.mp h3 e h1
end Q13
