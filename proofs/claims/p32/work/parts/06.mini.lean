/-! THE MINI MACHINE: the bytecode of the code tables over a heap of places (numbers), refs are places -/
abbrev mE : Type := (Nat × List Int32) ⊕ (Nat × List Value)
abbrev mH : Type := List mE
abbrev mL : Type := List (Option Value)
abbrev mS : Type := Nat × mL × List Value × mH × Nat × Nat
abbrev mO : Type := mS ⊕ (Option Value ⊕ (Nat × List Value × mS))
def mN (c : Nat) : Nat := match c with
  | 0 => 4
  | 1 => 12
  | 2 => 3
  | 3 => 11
  | 4 => 8
  | 5 => 29
  | _ => 0
def mT (c : Nat) : u_T := match c with
  | 0 => TX0
  | 1 => TX1
  | 2 => TX2
  | 3 => TX3
  | 4 => TX4
  | _ => TX5
def mty (c : Nat) : Nat → FieldType := match c with
  | 0 => tyX0
  | 1 => tyX1
  | 2 => tyX2
  | 3 => tyX3
  | 4 => tyX4
  | _ => tyX5
/-- an object just made -/
def mnew (c : Nat) : List Value := (List.range (mN c)).map (fun k => defaultValue (mty c k))
def mfetch (y pc : Nat) : Option mI := (mcode y).find? (fun e => Nat.beq e.1 pc)
def mgo (pc : Nat) (loc : mL) (stk : List Value) (hs : mH) (nc ns : Nat) : Option mO := some (.inl (pc, loc, stk, hs, nc, ns))
def mld (loc : mL) (i : Nat) : Option Value := match loc[i]? with
  | some (some v) => some v
  | _ => none
def mclr (loc : mL) (i : Nat) : mL := match i with
  | 0 => loc
  | j + 1 => match loc[j]? with
    | some (some v) => bif Nat.beq v.category 2 then loc.set j none else loc
    | _ => loc
def mst1 (loc : mL) (i : Nat) (v : Value) : mL := (mclr loc i).set i (some v)
def mst2 (loc : mL) (i : Nat) (v : Value) : mL := ((mclr loc i).set i (some v)).set (i + 1) none
def mjp (pc : Nat) (off : Int) (loc : mL) (stk : List Value) (hs : mH) (nc ns : Nat) : Option mO := match (pc : Int) + off with
  | .ofNat t => mgo t loc stk hs nc ns
  | .negSucc _ => none
def mtk (c : ClassFile.Cond) (x y : Int32) : Bool := match c with
  | .eq => decide (x = y)
  | .ne => decide (¬ x = y)
  | .lt => decide (x < y)
  | .ge => decide (y ≤ x)
  | .gt => decide (y < x)
  | .le => decide (x ≤ y)
def mI1 (f : Int32 → Value) (k : List Value → Option mO) (stk : List Value) : Option mO := match stk with
  | .int x :: st => k (f x :: st)
  | _ => none
def mI2 (f : Int32 → Int32 → Option Int32) (k : List Value → Option mO) (stk : List Value) : Option mO := match stk with
  | .int y :: .int x :: st => match f x y with
    | some v => k (.int v :: st)
    | none => none
  | _ => none
def mL2 (f : Int64 → Int64 → Option Value) (k : List Value → Option mO) (stk : List Value) : Option mO := match stk with
  | .long y :: .long x :: st => match f x y with
    | some v => k (v :: st)
    | none => none
  | _ => none
def midx (i : Int32) (n : Nat) : Option Nat := if i < 0 then none else bif Nat.blt i.toNatClampNeg n then some i.toNatClampNeg else none
def mak (t : ArrayType) : Option Nat := match t with
  | .int => some 0
  | .byte => some 1
  | .boolean => some 2
  | _ => none
def mfit (ty : FieldType) (v : Value) : Bool := match ty, v with
  | .int, .int _ => true
  | .boolean, .int x => decide (x = 0) || decide (x = 1)
  | .object _, .ref _ => true
  | .array _, .ref _ => true
  | _, _ => false
def mcat (st : List Value) : Nat := (st.map fun v => v.category).sum
def mpop (n : Nat) (stk : List Value) : Option (List Value × List Value) := bif Nat.ble n stk.length then some ((stk.take n).reverse, stk.drop n) else none
def mcpy (xs ys : List Int32) (sp dp n : Nat) : List Int32 := ys.take dp ++ ((xs.drop sp).take n ++ ys.drop (dp + n))
/-! the top of the stack, a local, a cell of the heap: what goes on, or nothing -/
def tI (stk : List Value) (F : Int32 → List Value → Option mO) : Option mO := match stk with
  | .int x :: st => F x st
  | _ => none
def tL (stk : List Value) (F : Int64 → List Value → Option mO) : Option mO := match stk with
  | .long x :: st => F x st
  | _ => none
def tR (stk : List Value) (F : Nat → List Value → Option mO) : Option mO := match stk with
  | .ref x :: st => F x st
  | _ => none
def tV (stk : List Value) (F : Value → List Value → Option mO) : Option mO := match stk with
  | v :: st => F v st
  | _ => none
def tE (stk : List Value) (x : Option mO) : Option mO := match stk with
  | [] => x
  | _ => none
def lI (loc : mL) (i : Nat) (F : Int32 → Option mO) : Option mO := match mld loc i with
  | some (.int x) => F x
  | _ => none
def lL (loc : mL) (i : Nat) (F : Int64 → Option mO) : Option mO := match mld loc i with
  | some (.long x) => F x
  | _ => none
def lR (loc : mL) (i : Nat) (F : Nat → Option mO) : Option mO := match mld loc i with
  | some (.ref x) => F x
  | _ => none
def hO (hs : mH) (r : Nat) (F : Nat → List Value → Option mO) : Option mO := match hs[r]? with
  | some (.inr (c, vs)) => F c vs
  | _ => none
def hA (hs : mH) (r : Nat) (F : Nat → List Int32 → Option mO) : Option mO := match hs[r]? with
  | some (.inl (c, vs)) => F c vs
  | _ => none
def oB (b : Bool) (x : Option mO) : Option mO := bif b then x else none
def oI (i : Int32) (n : Nat) (F : Nat → Option mO) : Option mO := match midx i n with
  | some j => F j
  | none => none
def oV (vs : List Value) (k : Nat) (F : Value → Option mO) : Option mO := match vs[k]? with
  | some v => F v
  | none => none
def oR (vs : List Value) (k : Nat) (F : Nat → Option mO) : Option mO := match vs[k]? with
  | some (.ref v) => F v
  | _ => none
def oN (n : Int32) (F : Nat → Option mO) : Option mO := if n < 0 then none else F n.toNatClampNeg
def oP (n : Nat) (stk : List Value) (F : List Value → List Value → Option mO) : Option mO := match mpop n stk with
  | some (as, rest) => F as rest
  | none => none
/-- the places ahead of this one are read alone: 0 the script, 1 and 2 the static rows, 3 to 9 the String constants -/
def mn0 : Nat := 10
def roA (r : Nat) : List Int32 := bif Nat.beq r 1 then [-2, -1, -5, -5] else [2, 1, 2, 4]
def roStr : List (List Int32) := [[112, 108, 97, 105, 110], [113, 117, 105, 99, 107], [108, 97, 122, 121], [98, 101, 110, 116], [114, 111, 111, 109], [119, 97, 108, 108], [111, 117, 116]]
def roS (r : Nat) : List Int32 := roStr.getD (r - 3) []
def mexec (sc : List Int32) (y : Nat) (ins : Instr) (a b : Nat) (z : Int) (pc : Nat) (loc : mL) (stk : List Value) (hs : mH) (nc ns : Nat) : Option mO := match ins with
  | .iconst n => mgo (pc + 1) loc (.int (Int32.ofInt n) :: stk) hs nc ns
  | .bipush n => mgo (pc + 2) loc (.int (Int8.ofInt n).toInt32 :: stk) hs nc ns
  | .sipush n => mgo (pc + 3) loc (.int (Int16.ofInt n).toInt32 :: stk) hs nc ns
  | .lconst n => mgo (pc + 1) loc (.long (Int64.ofNat (n : Nat)) :: stk) hs nc ns
  | .ldc _ => bif Nat.beq a 0 then mgo (pc + 2) loc (.int (Int32.ofInt z) :: stk) hs nc ns else oB (Nat.blt a 10) (mgo (pc + 2) loc (.ref a :: stk) hs nc ns)
  | .getstatic _ => oB (Nat.blt a 10) (mgo (pc + 3) loc (.ref a :: stk) hs nc ns)
  | .ldc2_w _ => mgo (pc + 3) loc (.long (Int64.ofInt z) :: stk) hs nc ns
  | .iload_n k => lI loc k fun x => mgo (pc + 1) loc (.int x :: stk) hs nc ns
  | .iload k => lI loc k fun x => mgo (pc + 2) loc (.int x :: stk) hs nc ns
  | .lload_n k => lL loc k fun x => mgo (pc + 1) loc (.long x :: stk) hs nc ns
  | .lload k => lL loc k fun x => mgo (pc + 2) loc (.long x :: stk) hs nc ns
  | .aload_n k => lR loc k fun x => mgo (pc + 1) loc (.ref x :: stk) hs nc ns
  | .aload k => lR loc k fun x => mgo (pc + 2) loc (.ref x :: stk) hs nc ns
  | .istore_n k => tI stk fun x st => oB (Nat.blt k (mmaxL y)) (mgo (pc + 1) (mst1 loc k (.int x)) st hs nc ns)
  | .istore k => tI stk fun x st => oB (Nat.blt k (mmaxL y)) (mgo (pc + 2) (mst1 loc k (.int x)) st hs nc ns)
  | .lstore_n k => tL stk fun x st => oB (Nat.blt (k + 1) (mmaxL y)) (mgo (pc + 1) (mst2 loc k (.long x)) st hs nc ns)
  | .lstore k => tL stk fun x st => oB (Nat.blt (k + 1) (mmaxL y)) (mgo (pc + 2) (mst2 loc k (.long x)) st hs nc ns)
  | .astore_n k => tR stk fun x st => oB (Nat.blt k (mmaxL y)) (mgo (pc + 1) (mst1 loc k (.ref x)) st hs nc ns)
  | .astore k => tR stk fun x st => oB (Nat.blt k (mmaxL y)) (mgo (pc + 2) (mst1 loc k (.ref x)) st hs nc ns)
  | .iinc k n => lI loc k fun x => mgo (pc + 3) (mst1 loc k (.int (x + Int32.ofInt n))) stk hs nc ns
  | .iadd => mI2 (fun x y => some (x + y)) (fun st => mgo (pc + 1) loc st hs nc ns) stk
  | .isub => mI2 (fun x y => some (x - y)) (fun st => mgo (pc + 1) loc st hs nc ns) stk
  | .imul => mI2 (fun x y => some (x * y)) (fun st => mgo (pc + 1) loc st hs nc ns) stk
  | .iand => mI2 (fun x y => some (x &&& y)) (fun st => mgo (pc + 1) loc st hs nc ns) stk
  | .ior => mI2 (fun x y => some (x ||| y)) (fun st => mgo (pc + 1) loc st hs nc ns) stk
  | .ixor => mI2 (fun x y => some (x ^^^ y)) (fun st => mgo (pc + 1) loc st hs nc ns) stk
  | .idiv => mI2 (fun x y => if y = 0 then none else some (x / y)) (fun st => mgo (pc + 1) loc st hs nc ns) stk
  | .irem => mI2 (fun x y => if y = 0 then none else some (x - x / y * y)) (fun st => mgo (pc + 1) loc st hs nc ns) stk
  | .ishl => mI2 (fun x y => some (x <<< (y &&& 31))) (fun st => mgo (pc + 1) loc st hs nc ns) stk
  | .ishr => mI2 (fun x y => some (x >>> (y &&& 31))) (fun st => mgo (pc + 1) loc st hs nc ns) stk
  | .iushr => mI2 (fun x y => some ((x.toUInt32 >>> (y.toUInt32 &&& Int32.toUInt32 31)).toInt32)) (fun st => mgo (pc + 1) loc st hs nc ns) stk
  | .ineg => mI1 (fun x => .int (-x)) (fun st => mgo (pc + 1) loc st hs nc ns) stk
  | .i2l => mI1 (fun x => .long x.toInt64) (fun st => mgo (pc + 1) loc st hs nc ns) stk
  | .i2b => mI1 (fun x => .int x.toInt8.toInt32) (fun st => mgo (pc + 1) loc st hs nc ns) stk
  | .i2s => mI1 (fun x => .int x.toInt16.toInt32) (fun st => mgo (pc + 1) loc st hs nc ns) stk
  | .i2c => mI1 (fun x => .int (x.toUInt32 % 65536).toInt32) (fun st => mgo (pc + 1) loc st hs nc ns) stk
  | .ladd => mL2 (fun x y => some (.long (x + y))) (fun st => mgo (pc + 1) loc st hs nc ns) stk
  | .lmul => mL2 (fun x y => some (.long (x * y))) (fun st => mgo (pc + 1) loc st hs nc ns) stk
  | .ldiv => mL2 (fun x y => if y = 0 then none else some (.long (x / y))) (fun st => mgo (pc + 1) loc st hs nc ns) stk
  | .lrem => mL2 (fun x y => if y = 0 then none else some (.long (x - x / y * y))) (fun st => mgo (pc + 1) loc st hs nc ns) stk
  | .lcmp => mL2 (fun x y => some (.int (lg_cmp x y))) (fun st => mgo (pc + 1) loc st hs nc ns) stk
  | .dup => tV stk fun v st => oB (Nat.beq v.category 1) (mgo (pc + 1) loc (v :: v :: st) hs nc ns)
  | .pop => tV stk fun v st => oB (Nat.beq v.category 1) (mgo (pc + 1) loc st hs nc ns)
  | .pop2 => tV stk fun v st => oB (Nat.beq v.category 2) (mgo (pc + 1) loc st hs nc ns)
  | .dup2 => tV stk fun v st => tV st fun w st => oB (Nat.beq v.category 1) (oB (Nat.beq w.category 1) (mgo (pc + 1) loc (v :: w :: v :: w :: st) hs nc ns))
  | .goto off => mjp pc off loc stk hs nc ns
  | .ifCond cd off => tI stk fun x st => bif mtk cd x 0 then mjp pc off loc st hs nc ns else mgo (pc + 3) loc st hs nc ns
  | .if_icmp cd off => tI stk fun y st => tI st fun x st => bif mtk cd x y then mjp pc off loc st hs nc ns else mgo (pc + 3) loc st hs nc ns
  | .tableswitch d lo hi offs => tI stk fun x st => if x.toInt < lo ∨ hi < x.toInt then mjp pc d loc st hs nc ns else match offs[(x.toInt - lo).toNat]? with
    | some off => mjp pc off loc st hs nc ns
    | none => none
  | .getfield _ => tR stk fun r st => hO hs r fun c vs => oB (Nat.beq c a) (oV vs b fun v => mgo (pc + 3) loc (v :: st) hs nc ns)
  | .putfield _ => tV stk fun v st => tR st fun r st => oB (Nat.ble mn0 r) <| hO hs r fun c vs => oB (Nat.beq c a) (oB (Nat.blt b vs.length) (oB (mfit (mty a b) v) (mgo (pc + 3) loc st (hs.set r (.inr (c, vs.set b v))) nc ns)))
  | .iaload => tI stk fun i st => tR st fun r st => bif Nat.ble mn0 r then hA hs r fun k xs => oB (Nat.beq k 0) (oI i xs.length fun j => mgo (pc + 1) loc (.int (xs.getD j 0) :: st) hs nc ns) else bif Nat.beq r 0 then oB (Nat.beq y 184) (oI i sc.length fun j => mgo (pc + 1) loc (.int (sc.getD j 0) :: st) hs nc ns) else oB (Nat.blt r 3) (oI i 4 fun j => mgo (pc + 1) loc (.int ((roA r).getD j 0) :: st) hs nc ns)
  | .baload => tI stk fun i st => tR st fun r st => oB (Nat.ble mn0 r) <| hA hs r fun k xs => oB (Nat.beq k 1 || Nat.beq k 2) (oI i xs.length fun j => mgo (pc + 1) loc (.int (xs.getD j 0) :: st) hs nc ns)
  | .iastore => tI stk fun x st => tI st fun i st => tR st fun r st => oB (Nat.ble mn0 r) <| hA hs r fun k xs => oB (Nat.beq k 0) (oI i xs.length fun j => mgo (pc + 1) loc st (hs.set r (.inl (0, xs.set j x))) nc ns)
  | .bastore => tI stk fun x st => tI st fun i st => tR st fun r st => oB (Nat.ble mn0 r) <| hA hs r fun k xs => oI i xs.length fun j =>
    bif Nat.beq k 1 then mgo (pc + 1) loc st (hs.set r (.inl (1, xs.set j (vp_nar .byte x)))) nc ns else oB (Nat.beq k 2) (mgo (pc + 1) loc st (hs.set r (.inl (2, xs.set j (vp_nar .boolean x)))) nc ns)
  | .aaload => tI stk fun i st => tR st fun r st => hO hs r fun c vs => oB (Nat.beq c 7 || Nat.beq c 8) (oI i vs.length fun j => oR vs j fun v => mgo (pc + 1) loc (.ref v :: st) hs nc ns)
  | .aastore => tR stk fun v st => tI st fun i st => tR st fun r st => oB (Nat.ble mn0 r) <| hO hs r fun c vs => hO hs v fun cv _ => oB ((Nat.beq c 7 && Nat.beq cv 1) || (Nat.beq c 8 && Nat.beq cv 2)) (oI i vs.length fun j => mgo (pc + 1) loc st (hs.set r (.inr (c, vs.set j (.ref v)))) nc ns)
  | .arraylength => tR stk fun r st => bif Nat.ble mn0 r then hA hs r fun k xs => oB (Nat.ble k 2) (mgo (pc + 1) loc (.int (Int32.ofNat xs.length) :: st) hs nc ns) else oB (Nat.beq r 0) (oB (Nat.beq y 184) (mgo (pc + 1) loc (.int (Int32.ofNat sc.length) :: st) hs nc ns))
  | .new _ => oB (Nat.blt a 6) (mgo (pc + 3) loc (.ref hs.length :: stk) (hs ++ [.inr (a, mnew a)]) (nc + 1) (ns + mN a))
  | .newarray t => tI stk fun n st => (match mak t with
    | some k => oN n fun N => oB (Nat.ble N 10000) (mgo (pc + 2) loc (.ref hs.length :: st) (hs ++ [.inl (k, List.replicate N 0)]) (nc + 1) (ns + N))
    | none => none)
  | .anewarray _ => tI stk fun n st => oB (Nat.beq a 1 || Nat.beq a 2) (oN n fun N => oB (Nat.ble N 10000) (mgo (pc + 3) loc (.ref hs.length :: st) (hs ++ [.inr (6 + a, List.replicate N .null)]) (nc + 1) (ns + N)))
  | .invokevirtual _ => (match b with
    | 8 => tR stk fun r st => oB (Nat.ble 3 r) (oB (Nat.blt r 10) (oB (Nat.ble (mcat st) 8) (mgo (pc + 3) loc (.int (Int32.ofNat (roS r).length) :: st) hs nc ns)))
    | 9 => tI stk fun i st => tR st fun r st => oB (Nat.ble 3 r) (oB (Nat.blt r 10) (oB (Nat.ble (mcat st) 8) (oI i (roS r).length fun j => mgo (pc + 3) loc (.int ((roS r).getD j 0) :: st) hs nc ns)))
    | _ => oP (marg a) stk fun as st => tR st fun r rest => hO hs r fun c _ => oB (Nat.beq c (mown a)) (oB (Nat.blt c 6) (oB (Nat.ble (mcat rest) 8) (some (.inr (.inr (a, .ref r :: as, (pc + 3, loc, rest, hs, nc, ns))))))))
  | .invokestatic _ => (match b with
    | 4 => tI stk fun n st => tI st fun dp st => tR st fun d st => oB (Nat.ble mn0 d) <| tI st fun sp st => tR st fun r st => oB (Nat.ble mn0 r) <| hA hs r fun k xs => hA hs d fun k2 ys => oB (Nat.beq k 0) (oB (Nat.beq k2 0) (oN sp fun sp => oN dp fun dp => oN n fun n =>
      oB (Nat.ble (sp + n) xs.length) (oB (Nat.ble (dp + n) ys.length) (oB (Nat.ble (mcat st) 8) (mgo (pc + 3) loc st (hs.set d (.inl (0, mcpy xs ys sp dp n))) nc ns)))))
    | 5 => tI stk fun v st => tI st fun u st => oB (Nat.ble (mcat st) 8) (mgo (pc + 3) loc (.int (if v < u then v else u) :: st) hs nc ns)
    | 6 => tI stk fun v st => tI st fun u st => oB (Nat.ble (mcat st) 8) (mgo (pc + 3) loc (.int (if u < v then v else u) :: st) hs nc ns)
    | 7 => tL stk fun v st => tL st fun u st => oB (Nat.ble (mcat st) 8) (mgo (pc + 3) loc (.long (if v < u then u else v) :: st) hs nc ns)
    | _ => oP (marg a) stk fun as rest => oB (Nat.ble (mcat rest) 8) (some (.inr (.inr (a, as, (pc + 3, loc, rest, hs, nc, ns))))))
  | .invokespecial _ => (match b with
    | 2 => tR stk fun _ st => oB (Nat.ble (mcat st) 8) (mgo (pc + 3) loc st hs nc ns)
    | _ => oP (marg a) stk fun as st => tR st fun r rest => oB (Nat.ble (mcat rest) 8) (some (.inr (.inr (a, .ref r :: as, (pc + 3, loc, rest, hs, nc, ns))))))
  | .return_ => tE stk (oB (decide (mret y = none)) (some (.inr (.inl none))))
  | .ireturn => tI stk fun x st => tE st (match mret y with
    | some .int => some (.inr (.inl (some (.int x))))
    | some .boolean => oB (decide (x = 0) || decide (x = 1)) (some (.inr (.inl (some (.int x)))))
    | _ => none)
  | .lreturn => tL stk fun x st => tE st (oB (decide (mret y = some .long)) (some (.inr (.inl (some (.long x))))))
  | .areturn => tR stk fun x st => tE st (match mret y with
    | some (.object _) => some (.inr (.inl (some (.ref x))))
    | _ => none)
  | _ => none
def mstep (sc : List Int32) (y : Nat) (q : mS) : Option mO := match mfetch y q.1 with
  | none => none
  | some i => mexec sc y i.2.1 i.2.2.2.1 i.2.2.2.2.1 i.2.2.2.2.2 q.1 q.2.1 q.2.2.1 q.2.2.2.1 q.2.2.2.2.1 q.2.2.2.2.2
def margs : List Value → mL
  | [] => []
  | v :: vs => bif Nat.beq v.category 2 then some v :: none :: margs vs else some v :: margs vs
def mentry (y : Nat) (as : List Value) (hs : mH) : mS := (0, (margs as ++ List.replicate (mmaxL y - (margs as).length) none), [], hs, 0, 0)
def mmon (q q' : mS) : Bool := Nat.ble q.2.2.2.2.1 q'.2.2.2.2.1 && Nat.ble q.2.2.2.2.2 q'.2.2.2.2.2
def mrun (sc : List Int32) : Nat → Nat → Nat → mS → Option (Option Value × mH × Nat × Nat)
  | 0, _, _, _ => none
  | n + 1, d, y, q => match mstep sc y q with
    | none => none
    | some (.inl q') => bif mmon q q' then mrun sc n d y q' else none
    | some (.inr (.inl v)) => some (v, q.2.2.2.1, q.2.2.2.2.1, q.2.2.2.2.2)
    | some (.inr (.inr (y', as, q'))) => match d with
      | 0 => none
      | d' + 1 => match mrun sc n d' y' (mentry y' as q'.2.2.2.1) with
        | none => none
        | some (v, hs', c', s') => bif mmon q q' && Nat.ble (margs as).length (mmaxL y') then mrun sc n (d' + 1) y (q'.1, q'.2.1, v.toList ++ q'.2.2.1, hs', q'.2.2.2.2.1 + c', q'.2.2.2.2.2 + s') else none
