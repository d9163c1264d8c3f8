/-! what is checked of every row of the code tables, beside its decoding -/
def mlen (ins : Instr) : Nat := match ins with
  | .bipush _ => 2
  | .sipush _ => 3
  | .ldc _ => 2
  | .ldc2_w _ => 3
  | .iload _ => 2
  | .lload _ => 2
  | .aload _ => 2
  | .istore _ => 2
  | .lstore _ => 2
  | .astore _ => 2
  | .iinc _ _ => 3
  | .goto _ => 3
  | .ifCond _ _ => 3
  | .if_icmp _ _ => 3
  | .getfield _ => 3
  | .putfield _ => 3
  | .getstatic _ => 3
  | .invokevirtual _ => 3
  | .invokestatic _ => 3
  | .invokespecial _ => 3
  | .new _ => 3
  | .newarray _ => 2
  | .anewarray _ => 3
  | .tableswitch _ _ _ _ => 0
  | _ => 1
def meq3 (a b : Nat × Nat × Nat) : Bool := Nat.beq a.1 b.1 && (Nat.beq a.2.1 b.2.1 && Nat.beq a.2.2 b.2.2)
def meq4 (a b : Nat × Nat × Nat × Nat) : Bool := Nat.beq a.1 b.1 && (Nat.beq a.2.1 b.2.1 && (Nat.beq a.2.2.1 b.2.2.1 && Nat.beq a.2.2.2 b.2.2.2))
def meqz (a b : Nat × Nat × Int) : Bool := Nat.beq a.1 b.1 && (Nat.beq a.2.1 b.2.1 && decide (a.2.2 = b.2.2))
def meq2 (a b : Nat × Nat) : Bool := Nat.beq a.1 b.1 && Nat.beq a.2 b.2
theorem meq3_eq {a b : Nat × Nat × Nat} (h : meq3 a b = true) : a = b := by
  obtain ⟨a1, a2, a3⟩ := a
  obtain ⟨b1, b2, b3⟩ := b
  simp only [meq3, Bool.and_eq_true] at h
  obtain ⟨h1, h2, h3⟩ := h
  rw [Nat.eq_of_beq_eq_true h1, Nat.eq_of_beq_eq_true h2, Nat.eq_of_beq_eq_true h3]
theorem meq4_eq {a b : Nat × Nat × Nat × Nat} (h : meq4 a b = true) : a = b := by
  obtain ⟨a1, a2, a3, a4⟩ := a
  obtain ⟨b1, b2, b3, b4⟩ := b
  simp only [meq4, Bool.and_eq_true] at h
  obtain ⟨h1, h2, h3, h4⟩ := h
  rw [Nat.eq_of_beq_eq_true h1, Nat.eq_of_beq_eq_true h2, Nat.eq_of_beq_eq_true h3, Nat.eq_of_beq_eq_true h4]
theorem meqz_eq {a b : Nat × Nat × Int} (h : meqz a b = true) : a = b := by
  obtain ⟨a1, a2, a3⟩ := a
  obtain ⟨b1, b2, b3⟩ := b
  simp only [meqz, Bool.and_eq_true, decide_eq_true_eq] at h
  obtain ⟨h1, h2, h3⟩ := h
  rw [Nat.eq_of_beq_eq_true h1, Nat.eq_of_beq_eq_true h2, h3]
theorem meq2_eq {a b : Nat × Nat} (h : meq2 a b = true) : a = b := by
  obtain ⟨a1, a2⟩ := a
  obtain ⟨b1, b2⟩ := b
  simp only [meq2, Bool.and_eq_true] at h
  obtain ⟨h1, h2⟩ := h
  rw [Nat.eq_of_beq_eq_true h1, Nat.eq_of_beq_eq_true h2]
def mchk (y : Nat) (e : mI) : Bool := (match e.2.1 with
  | .tableswitch _ _ _ _ => true
  | i => Nat.beq e.2.2.1 (mlen i)) && (match e.2.1 with
  | .getfield i => mlF.any (meq4 (mown y, i, e.2.2.2.1, e.2.2.2.2.1)) && (Nat.blt e.2.2.2.1 6 && Nat.blt e.2.2.2.2.1 (mN e.2.2.2.1))
  | .putfield i => mlF.any (meq4 (mown y, i, e.2.2.2.1, e.2.2.2.2.1)) && (Nat.blt e.2.2.2.1 6 && (Nat.blt e.2.2.2.2.1 (mN e.2.2.2.1) && (decide ((mT e.2.2.2.1 e.2.2.2.2.1).2.2.2 = false) || (decide ((mname y).name = "<init>") && decide ((mT e.2.2.2.1 e.2.2.2.2.1).1 = mR (mown y))))))
  | .invokevirtual i => (match e.2.2.2.2.1 with
    | 0 => mlM.any (meq3 (mown y, i, e.2.2.2.1)) && (Nat.beq (mkd e.2.2.2.1) 1 && Nat.blt e.2.2.2.1 184)
    | 8 => mlU.any (meq3 (mown y, i, 8))
    | 9 => mlU.any (meq3 (mown y, i, 9))
    | _ => false)
  | .invokestatic i => (match e.2.2.2.2.1 with
    | 0 => mlM.any (meq3 (mown y, i, e.2.2.2.1)) && (Nat.beq (mkd e.2.2.2.1) 0 && Nat.blt e.2.2.2.1 184)
    | 1 => mlN.any (meq3 (mown y, i, e.2.2.2.1)) && (Nat.beq (mkd e.2.2.2.1) 0 && Nat.blt e.2.2.2.1 184)
    | 4 => mlA.any (meq2 (mown y, i))
    | 5 => mlMin.any (meq2 (mown y, i))
    | 6 => mlMax.any (meq2 (mown y, i))
    | 7 => mlMaxL.any (meq2 (mown y, i))
    | _ => false)
  | .invokespecial i => (match e.2.2.2.2.1 with
    | 0 => mlM.any (meq3 (mown y, i, e.2.2.2.1)) && (Nat.beq (mkd e.2.2.2.1) 2 && Nat.blt e.2.2.2.1 184)
    | 1 => mlN.any (meq3 (mown y, i, e.2.2.2.1)) && (Nat.beq (mkd e.2.2.2.1) 2 && Nat.blt e.2.2.2.1 184)
    | 2 => mlO.any (meq2 (mown y, i))
    | _ => false)
  | .new i => mlC.any (meq3 (mown y, i, e.2.2.2.1)) && Nat.blt e.2.2.2.1 6
  | .anewarray i => mlC.any (meq3 (mown y, i, e.2.2.2.1)) && Nat.blt e.2.2.2.1 6
  | .ifCond _ off => decide (0 ≤ (e.1 : Int) + off)
  | .if_icmp _ off => decide (0 ≤ (e.1 : Int) + off)
  | .ldc i => bif Nat.beq e.2.2.2.1 0 then mlK.any (meqz (mown y, i, e.2.2.2.2.2)) else mlT.any (meq3 (mown y, i, e.2.2.2.1))
  | .getstatic i => mlS.any (meq3 (mown y, i, e.2.2.2.1))
  | .ldc2_w i => mlL.any (meqz (mown y, i, e.2.2.2.2.2))
  | _ => true)
theorem mchk_ok : (List.range 185).all (fun y => (mcode y).all (mchk y)) = true := by decide +kernel
def mmB (y : Nat) : Bool := decide ((parseMethodDescriptor (mname y).desc).map (fun d => d.parameters.length) = some (marg y)) && (plainName (mname y).cls && (decide ((mname y).cls ≠ "java/lang/invoke/MethodHandle") && (decide ((mname y).cls ≠ "java/lang/invoke/VarHandle") && (decide ((mname y).cls = mR (mown y)) && ((moCode.any (Nat.beq y)) && (moIni.any (Nat.beq (mown y)) &&
  (match mkd y with
  | 0 => moStat.any (Nat.beq y)
  | 1 => moInst.any (Nat.beq y) && moSel.any (Nat.beq y)
  | _ => moInst.any (Nat.beq y) && (decide ((mname y).name = "<init>") && decide (mret y = none)))))))))
theorem mm_ok : (List.range 184).all mmB = true := by decide +kernel
