theorem mjp_eq {pc : Nat} {off : Int} {t : Nat} {loc : mL} {stk : List Value} {hs : mH} {nc ns : Nat} (h : (pc : Int) + off = (t : Int)) : mjp pc off loc stk hs nc ns = some (.inl (t, loc, stk, hs, nc, ns)) := by
  unfold mjp; rw [h]; rfl
section FRM
variable {sc : List Int32} {σ : Nat → Nat} {y pc : Nat} {loc : mL} {stk : List Value} {hs HS : mH} {nc ns : Nat}
set_option maxHeartbeats 4000000 in
/-- one instruction, that makes nothing -/
theorem f_next (hy : y < 184) (hE : mEmb σ hs HS) {ins : Instr} {a b : Nat} {z : Int} {q : mS} (hx : mexec sc y ins a b z pc loc stk hs nc ns = some (.inl q)) (hn : q.2.2.2.2.1 = nc) :
    ∃ HS', mexec sc y ins a b z pc (rL σ loc) (stk.map (cV σ)) HS nc ns = some (.inl (q.1, rL σ q.2.1, q.2.2.1.map (cV σ), HS', q.2.2.2.2.1, q.2.2.2.2.2)) ∧ mEmb σ q.2.2.2.1 HS' ∧ mOff σ hs.length HS HS' ∧ q.2.2.2.1.length = hs.length := by
  cases ins with
  | iconst n =>
    obtain rfl := mgo_inv hx
    exact ⟨HS, rfl, hE, mOff.rf, rfl⟩
  | bipush n =>
    obtain rfl := mgo_inv hx
    exact ⟨HS, rfl, hE, mOff.rf, rfl⟩
  | sipush n =>
    obtain rfl := mgo_inv hx
    exact ⟨HS, rfl, hE, mOff.rf, rfl⟩
  | lconst n =>
    obtain rfl := mgo_inv hx
    exact ⟨HS, rfl, hE, mOff.rf, rfl⟩
  | ldc i =>
    have hx0 : (bif Nat.beq a 0 then mgo (pc + 2) loc (.int (Int32.ofInt z) :: stk) hs nc ns else oB (Nat.blt a 10) (mgo (pc + 2) loc (.ref a :: stk) hs nc ns)) = some (.inl q) := hx
    refine ⟨HS, ?_, ?_⟩
    · show (bif Nat.beq a 0 then mgo (pc + 2) (rL σ loc) (.int (Int32.ofInt z) :: stk.map (cV σ)) HS nc ns else oB (Nat.blt a 10) (mgo (pc + 2) (rL σ loc) (.ref a :: stk.map (cV σ)) HS nc ns)) = _
      cases ha : Nat.beq a 0 with
      | true =>
        rw [ha, cond_true] at hx0
        obtain rfl := mgo_inv hx0
        rfl
      | false =>
        rw [ha, cond_false] at hx0
        obtain ⟨h1, hx1⟩ := oB_inv hx0
        obtain rfl := mgo_inv hx1
        rw [cond_false, oB_eq h1]
        show some (Sum.inl _) = some (Sum.inl (_, _, Value.ref (σ a) :: _, _))
        rw [hE.2.2.2 a (lt_of_blt h1)]
    · cases ha : Nat.beq a 0 with
      | true =>
        rw [ha, cond_true] at hx0
        obtain rfl := mgo_inv hx0
        exact ⟨hE, mOff.rf, rfl⟩
      | false =>
        rw [ha, cond_false] at hx0
        obtain ⟨h1, hx1⟩ := oB_inv hx0
        obtain rfl := mgo_inv hx1
        exact ⟨hE, mOff.rf, rfl⟩
  | getstatic i =>
    obtain ⟨h1, hx1⟩ := oB_inv hx
    obtain rfl := mgo_inv hx1
    refine ⟨HS, (oB_eq h1).trans ?_, hE, mOff.rf, rfl⟩
    show some (Sum.inl _) = some (Sum.inl (_, _, Value.ref (σ a) :: _, _))
    rw [hE.2.2.2 a (lt_of_blt h1)]
  | ldc2_w i =>
    obtain rfl := mgo_inv hx
    exact ⟨HS, rfl, hE, mOff.rf, rfl⟩
  | iload_n n =>
    obtain ⟨x, hv, hx1⟩ := lI_inv hx
    obtain rfl := mgo_inv hx1
    exact ⟨HS, (lI_eq (rL_ld hv)).trans rfl, hE, mOff.rf, rfl⟩
  | iload n =>
    obtain ⟨x, hv, hx1⟩ := lI_inv hx
    obtain rfl := mgo_inv hx1
    exact ⟨HS, (lI_eq (rL_ld hv)).trans rfl, hE, mOff.rf, rfl⟩
  | lload_n n =>
    obtain ⟨x, hv, hx1⟩ := lL_inv hx
    obtain rfl := mgo_inv hx1
    exact ⟨HS, (lL_eq (rL_ld hv)).trans rfl, hE, mOff.rf, rfl⟩
  | lload n =>
    obtain ⟨x, hv, hx1⟩ := lL_inv hx
    obtain rfl := mgo_inv hx1
    exact ⟨HS, (lL_eq (rL_ld hv)).trans rfl, hE, mOff.rf, rfl⟩
  | aload_n n =>
    obtain ⟨x, hv, hx1⟩ := lR_inv hx
    obtain rfl := mgo_inv hx1
    exact ⟨HS, (lR_eq (rL_ld hv)).trans rfl, hE, mOff.rf, rfl⟩
  | aload n =>
    obtain ⟨x, hv, hx1⟩ := lR_inv hx
    obtain rfl := mgo_inv hx1
    exact ⟨HS, (lR_eq (rL_ld hv)).trans rfl, hE, mOff.rf, rfl⟩
  | istore_n n =>
    obtain ⟨x, st, e0, hx1⟩ := tI_inv hx
    subst e0
    obtain ⟨hn', hx2⟩ := oB_inv hx1
    obtain rfl := mgo_inv hx2
    refine ⟨HS, (oB_eq hn').trans ?_, hE, mOff.rf, rfl⟩
    rw [← rL_st1]
    rfl
  | istore n =>
    obtain ⟨x, st, e0, hx1⟩ := tI_inv hx
    subst e0
    obtain ⟨hn', hx2⟩ := oB_inv hx1
    obtain rfl := mgo_inv hx2
    refine ⟨HS, (oB_eq hn').trans ?_, hE, mOff.rf, rfl⟩
    rw [← rL_st1]
    rfl
  | lstore_n n =>
    obtain ⟨x, st, e0, hx1⟩ := tL_inv hx
    subst e0
    obtain ⟨hn', hx2⟩ := oB_inv hx1
    obtain rfl := mgo_inv hx2
    refine ⟨HS, (oB_eq hn').trans ?_, hE, mOff.rf, rfl⟩
    rw [← rL_st2]
    rfl
  | lstore n =>
    obtain ⟨x, st, e0, hx1⟩ := tL_inv hx
    subst e0
    obtain ⟨hn', hx2⟩ := oB_inv hx1
    obtain rfl := mgo_inv hx2
    refine ⟨HS, (oB_eq hn').trans ?_, hE, mOff.rf, rfl⟩
    rw [← rL_st2]
    rfl
  | astore_n n =>
    obtain ⟨x, st, e0, hx1⟩ := tR_inv hx
    subst e0
    obtain ⟨hn', hx2⟩ := oB_inv hx1
    obtain rfl := mgo_inv hx2
    refine ⟨HS, (oB_eq hn').trans ?_, hE, mOff.rf, rfl⟩
    rw [← rL_st1]
    rfl
  | astore n =>
    obtain ⟨x, st, e0, hx1⟩ := tR_inv hx
    subst e0
    obtain ⟨hn', hx2⟩ := oB_inv hx1
    obtain rfl := mgo_inv hx2
    refine ⟨HS, (oB_eq hn').trans ?_, hE, mOff.rf, rfl⟩
    rw [← rL_st1]
    rfl
  | iinc i n =>
    obtain ⟨x, hv, hx1⟩ := lI_inv hx
    obtain rfl := mgo_inv hx1
    refine ⟨HS, (lI_eq (rL_ld hv)).trans ?_, hE, mOff.rf, rfl⟩
    rw [← rL_st1]
    rfl
  | iadd =>
    have hx1 : mI2 (fun x y => some (x + y)) (fun st => mgo (pc + 1) loc st hs nc ns) stk = some (.inl q) := hx
    obtain ⟨x, w, st, v, e0, hf, hx2⟩ := mI2_inv hx1
    subst e0
    cases hf
    obtain rfl := mgo_inv hx2
    exact ⟨HS, rfl, hE, mOff.rf, rfl⟩
  | isub =>
    have hx1 : mI2 (fun x y => some (x - y)) (fun st => mgo (pc + 1) loc st hs nc ns) stk = some (.inl q) := hx
    obtain ⟨x, w, st, v, e0, hf, hx2⟩ := mI2_inv hx1
    subst e0
    cases hf
    obtain rfl := mgo_inv hx2
    exact ⟨HS, rfl, hE, mOff.rf, rfl⟩
  | imul =>
    have hx1 : mI2 (fun x y => some (x * y)) (fun st => mgo (pc + 1) loc st hs nc ns) stk = some (.inl q) := hx
    obtain ⟨x, w, st, v, e0, hf, hx2⟩ := mI2_inv hx1
    subst e0
    cases hf
    obtain rfl := mgo_inv hx2
    exact ⟨HS, rfl, hE, mOff.rf, rfl⟩
  | iand =>
    have hx1 : mI2 (fun x y => some (x &&& y)) (fun st => mgo (pc + 1) loc st hs nc ns) stk = some (.inl q) := hx
    obtain ⟨x, w, st, v, e0, hf, hx2⟩ := mI2_inv hx1
    subst e0
    cases hf
    obtain rfl := mgo_inv hx2
    exact ⟨HS, rfl, hE, mOff.rf, rfl⟩
  | ior =>
    have hx1 : mI2 (fun x y => some (x ||| y)) (fun st => mgo (pc + 1) loc st hs nc ns) stk = some (.inl q) := hx
    obtain ⟨x, w, st, v, e0, hf, hx2⟩ := mI2_inv hx1
    subst e0
    cases hf
    obtain rfl := mgo_inv hx2
    exact ⟨HS, rfl, hE, mOff.rf, rfl⟩
  | ixor =>
    have hx1 : mI2 (fun x y => some (x ^^^ y)) (fun st => mgo (pc + 1) loc st hs nc ns) stk = some (.inl q) := hx
    obtain ⟨x, w, st, v, e0, hf, hx2⟩ := mI2_inv hx1
    subst e0
    cases hf
    obtain rfl := mgo_inv hx2
    exact ⟨HS, rfl, hE, mOff.rf, rfl⟩
  | idiv =>
    have hx1 : mI2 (fun x y => if y = 0 then none else some (x / y)) (fun st => mgo (pc + 1) loc st hs nc ns) stk = some (.inl q) := hx
    obtain ⟨x, w, st, v, e0, hf, hx2⟩ := mI2_inv hx1
    subst e0
    by_cases h0 : w = 0
    · rw [if_pos h0] at hf; cases hf
    · rw [if_neg h0] at hf
      cases hf
      obtain rfl := mgo_inv hx2
      refine ⟨HS, ?_, hE, mOff.rf, rfl⟩
      show mI2 (fun x y => if y = 0 then none else some (x / y)) (fun st => mgo (pc + 1) (rL σ loc) st HS nc ns) (.int w :: .int x :: st.map (cV σ)) = _
      unfold mI2
      simp only [if_neg h0]
      rfl
  | irem =>
    have hx1 : mI2 (fun x y => if y = 0 then none else some (x - x / y * y)) (fun st => mgo (pc + 1) loc st hs nc ns) stk = some (.inl q) := hx
    obtain ⟨x, w, st, v, e0, hf, hx2⟩ := mI2_inv hx1
    subst e0
    by_cases h0 : w = 0
    · rw [if_pos h0] at hf; cases hf
    · rw [if_neg h0] at hf
      cases hf
      obtain rfl := mgo_inv hx2
      refine ⟨HS, ?_, hE, mOff.rf, rfl⟩
      show mI2 (fun x y => if y = 0 then none else some (x - x / y * y)) (fun st => mgo (pc + 1) (rL σ loc) st HS nc ns) (.int w :: .int x :: st.map (cV σ)) = _
      unfold mI2
      simp only [if_neg h0]
      rfl
  | ishl =>
    have hx1 : mI2 (fun x y => some (x <<< (y &&& 31))) (fun st => mgo (pc + 1) loc st hs nc ns) stk = some (.inl q) := hx
    obtain ⟨x, w, st, v, e0, hf, hx2⟩ := mI2_inv hx1
    subst e0
    cases hf
    obtain rfl := mgo_inv hx2
    exact ⟨HS, rfl, hE, mOff.rf, rfl⟩
  | ishr =>
    have hx1 : mI2 (fun x y => some (x >>> (y &&& 31))) (fun st => mgo (pc + 1) loc st hs nc ns) stk = some (.inl q) := hx
    obtain ⟨x, w, st, v, e0, hf, hx2⟩ := mI2_inv hx1
    subst e0
    cases hf
    obtain rfl := mgo_inv hx2
    exact ⟨HS, rfl, hE, mOff.rf, rfl⟩
  | iushr =>
    have hx1 : mI2 (fun x y => some ((x.toUInt32 >>> (y.toUInt32 &&& Int32.toUInt32 31)).toInt32)) (fun st => mgo (pc + 1) loc st hs nc ns) stk = some (.inl q) := hx
    obtain ⟨x, w, st, v, e0, hf, hx2⟩ := mI2_inv hx1
    subst e0
    cases hf
    obtain rfl := mgo_inv hx2
    exact ⟨HS, rfl, hE, mOff.rf, rfl⟩
  | ineg =>
    have hx1 : mI1 (fun x => .int (-x)) (fun st => mgo (pc + 1) loc st hs nc ns) stk = some (.inl q) := hx
    obtain ⟨x, st, e0, hx2⟩ := mI1_inv hx1
    subst e0
    obtain rfl := mgo_inv hx2
    exact ⟨HS, rfl, hE, mOff.rf, rfl⟩
  | i2l =>
    have hx1 : mI1 (fun x => .long x.toInt64) (fun st => mgo (pc + 1) loc st hs nc ns) stk = some (.inl q) := hx
    obtain ⟨x, st, e0, hx2⟩ := mI1_inv hx1
    subst e0
    obtain rfl := mgo_inv hx2
    exact ⟨HS, rfl, hE, mOff.rf, rfl⟩
  | i2b =>
    have hx1 : mI1 (fun x => .int x.toInt8.toInt32) (fun st => mgo (pc + 1) loc st hs nc ns) stk = some (.inl q) := hx
    obtain ⟨x, st, e0, hx2⟩ := mI1_inv hx1
    subst e0
    obtain rfl := mgo_inv hx2
    exact ⟨HS, rfl, hE, mOff.rf, rfl⟩
  | i2s =>
    have hx1 : mI1 (fun x => .int x.toInt16.toInt32) (fun st => mgo (pc + 1) loc st hs nc ns) stk = some (.inl q) := hx
    obtain ⟨x, st, e0, hx2⟩ := mI1_inv hx1
    subst e0
    obtain rfl := mgo_inv hx2
    exact ⟨HS, rfl, hE, mOff.rf, rfl⟩
  | i2c =>
    have hx1 : mI1 (fun x => .int (x.toUInt32 % 65536).toInt32) (fun st => mgo (pc + 1) loc st hs nc ns) stk = some (.inl q) := hx
    obtain ⟨x, st, e0, hx2⟩ := mI1_inv hx1
    subst e0
    obtain rfl := mgo_inv hx2
    exact ⟨HS, rfl, hE, mOff.rf, rfl⟩
  | ladd =>
    have hx1 : mL2 (fun x y => some (.long (x + y))) (fun st => mgo (pc + 1) loc st hs nc ns) stk = some (.inl q) := hx
    obtain ⟨x, w, st, v, e0, hf, hx2⟩ := mL2_inv hx1
    subst e0
    cases hf
    obtain rfl := mgo_inv hx2
    exact ⟨HS, rfl, hE, mOff.rf, rfl⟩
  | lmul =>
    have hx1 : mL2 (fun x y => some (.long (x * y))) (fun st => mgo (pc + 1) loc st hs nc ns) stk = some (.inl q) := hx
    obtain ⟨x, w, st, v, e0, hf, hx2⟩ := mL2_inv hx1
    subst e0
    cases hf
    obtain rfl := mgo_inv hx2
    exact ⟨HS, rfl, hE, mOff.rf, rfl⟩
  | ldiv =>
    have hx1 : mL2 (fun x y => if y = 0 then none else some (.long (x / y))) (fun st => mgo (pc + 1) loc st hs nc ns) stk = some (.inl q) := hx
    obtain ⟨x, w, st, v, e0, hf, hx2⟩ := mL2_inv hx1
    subst e0
    by_cases h0 : w = 0
    · rw [if_pos h0] at hf; cases hf
    · rw [if_neg h0] at hf
      cases hf
      obtain rfl := mgo_inv hx2
      refine ⟨HS, ?_, hE, mOff.rf, rfl⟩
      show mL2 (fun x y => if y = 0 then none else some (.long (x / y))) (fun st => mgo (pc + 1) (rL σ loc) st HS nc ns) (.long w :: .long x :: st.map (cV σ)) = _
      unfold mL2
      simp only [if_neg h0]
      rfl
  | lrem =>
    have hx1 : mL2 (fun x y => if y = 0 then none else some (.long (x - x / y * y))) (fun st => mgo (pc + 1) loc st hs nc ns) stk = some (.inl q) := hx
    obtain ⟨x, w, st, v, e0, hf, hx2⟩ := mL2_inv hx1
    subst e0
    by_cases h0 : w = 0
    · rw [if_pos h0] at hf; cases hf
    · rw [if_neg h0] at hf
      cases hf
      obtain rfl := mgo_inv hx2
      refine ⟨HS, ?_, hE, mOff.rf, rfl⟩
      show mL2 (fun x y => if y = 0 then none else some (.long (x - x / y * y))) (fun st => mgo (pc + 1) (rL σ loc) st HS nc ns) (.long w :: .long x :: st.map (cV σ)) = _
      unfold mL2
      simp only [if_neg h0]
      rfl
  | lcmp =>
    have hx1 : mL2 (fun x y => some (.int (lg_cmp x y))) (fun st => mgo (pc + 1) loc st hs nc ns) stk = some (.inl q) := hx
    obtain ⟨x, w, st, v, e0, hf, hx2⟩ := mL2_inv hx1
    subst e0
    cases hf
    obtain rfl := mgo_inv hx2
    exact ⟨HS, rfl, hE, mOff.rf, rfl⟩
  | dup =>
    obtain ⟨v, st, e0, hx1⟩ := tV_inv hx
    subst e0
    obtain ⟨hv, hx2⟩ := oB_inv hx1
    obtain rfl := mgo_inv hx2
    exact ⟨HS, (oB_eq (by rw [cV_cat]; exact hv)).trans rfl, hE, mOff.rf, rfl⟩
  | pop =>
    obtain ⟨v, st, e0, hx1⟩ := tV_inv hx
    subst e0
    obtain ⟨hv, hx2⟩ := oB_inv hx1
    obtain rfl := mgo_inv hx2
    exact ⟨HS, (oB_eq (by rw [cV_cat]; exact hv)).trans rfl, hE, mOff.rf, rfl⟩
  | pop2 =>
    obtain ⟨v, st, e0, hx1⟩ := tV_inv hx
    subst e0
    obtain ⟨hv, hx2⟩ := oB_inv hx1
    obtain rfl := mgo_inv hx2
    exact ⟨HS, (oB_eq (by rw [cV_cat]; exact hv)).trans rfl, hE, mOff.rf, rfl⟩
  | dup2 =>
    obtain ⟨v, st, e0, hx1⟩ := tV_inv hx
    subst e0
    obtain ⟨w, st, e0, hx2⟩ := tV_inv hx1
    subst e0
    obtain ⟨hv, hx3⟩ := oB_inv hx2
    obtain ⟨hw, hx4⟩ := oB_inv hx3
    obtain rfl := mgo_inv hx4
    exact ⟨HS, (oB_eq (by rw [cV_cat]; exact hv)).trans ((oB_eq (by rw [cV_cat]; exact hw)).trans rfl), hE, mOff.rf, rfl⟩
  | goto off =>
    obtain ⟨t, ht, rfl⟩ := mjp_inv hx
    exact ⟨HS, mjp_eq ht, hE, mOff.rf, rfl⟩
  | ifCond cd off =>
    obtain ⟨x, st, e0, hx1⟩ := tI_inv hx
    subst e0
    cases w : mtk cd x 0 with
    | true =>
      rw [w, cond_true] at hx1
      obtain ⟨t, ht, rfl⟩ := mjp_inv hx1
      refine ⟨HS, ?_, hE, mOff.rf, rfl⟩
      show (bif mtk cd x 0 then mjp pc off (rL σ loc) (st.map (cV σ)) HS nc ns else mgo (pc + 3) (rL σ loc) (st.map (cV σ)) HS nc ns) = _
      rw [w, cond_true]
      exact mjp_eq ht
    | false =>
      rw [w, cond_false] at hx1
      obtain rfl := mgo_inv hx1
      refine ⟨HS, ?_, hE, mOff.rf, rfl⟩
      show (bif mtk cd x 0 then mjp pc off (rL σ loc) (st.map (cV σ)) HS nc ns else mgo (pc + 3) (rL σ loc) (st.map (cV σ)) HS nc ns) = _
      rw [w, cond_false]
      rfl
  | if_icmp cd off =>
    obtain ⟨x', st, e0, hx1⟩ := tI_inv hx
    subst e0
    obtain ⟨x, st, e0, hx2⟩ := tI_inv hx1
    subst e0
    cases w : mtk cd x x' with
    | true =>
      rw [w, cond_true] at hx2
      obtain ⟨t, ht, rfl⟩ := mjp_inv hx2
      refine ⟨HS, ?_, hE, mOff.rf, rfl⟩
      show (bif mtk cd x x' then mjp pc off (rL σ loc) (st.map (cV σ)) HS nc ns else mgo (pc + 3) (rL σ loc) (st.map (cV σ)) HS nc ns) = _
      rw [w, cond_true]
      exact mjp_eq ht
    | false =>
      rw [w, cond_false] at hx2
      obtain rfl := mgo_inv hx2
      refine ⟨HS, ?_, hE, mOff.rf, rfl⟩
      show (bif mtk cd x x' then mjp pc off (rL σ loc) (st.map (cV σ)) HS nc ns else mgo (pc + 3) (rL σ loc) (st.map (cV σ)) HS nc ns) = _
      rw [w, cond_false]
      rfl
  | tableswitch d lo hi offs =>
    obtain ⟨x, st, e0, hx1⟩ := tI_inv hx
    subst e0
    by_cases h0 : x.toInt < lo ∨ hi < x.toInt
    · rw [if_pos h0] at hx1
      obtain ⟨t, ht, rfl⟩ := mjp_inv hx1
      refine ⟨HS, ?_, hE, mOff.rf, rfl⟩
      show (if x.toInt < lo ∨ hi < x.toInt then mjp pc d (rL σ loc) (st.map (cV σ)) HS nc ns else match offs[(x.toInt - lo).toNat]? with | some off => mjp pc off (rL σ loc) (st.map (cV σ)) HS nc ns | none => none) = _
      rw [if_pos h0]
      exact mjp_eq ht
    · rw [if_neg h0] at hx1
      cases e : offs[(x.toInt - lo).toNat]? with
      | none => rw [e] at hx1; cases hx1
      | some off =>
        rw [e] at hx1
        obtain ⟨t, ht, rfl⟩ := mjp_inv hx1
        refine ⟨HS, ?_, hE, mOff.rf, rfl⟩
        show (if x.toInt < lo ∨ hi < x.toInt then mjp pc d (rL σ loc) (st.map (cV σ)) HS nc ns else match offs[(x.toInt - lo).toNat]? with | some off => mjp pc off (rL σ loc) (st.map (cV σ)) HS nc ns | none => none) = _
        rw [if_neg h0, e]
        exact mjp_eq ht
  | getfield i =>
    obtain ⟨r, st, e0, hx1⟩ := tR_inv hx
    subst e0
    obtain ⟨c', vs, hr, hx2⟩ := hO_inv hx1
    obtain ⟨hc, hx3⟩ := oB_inv hx2
    obtain ⟨v, hv, hx4⟩ := oV_inv hx3
    obtain rfl := mgo_inv hx4
    exact ⟨HS, (hO_eq (hE.1 r _ hr)).trans ((oB_eq hc).trans ((oV_eq (by rw [List.getElem?_map, hv]; rfl)).trans rfl)), hE, mOff.rf, rfl⟩
  | putfield i =>
    obtain ⟨v, st, e0, hx1⟩ := tV_inv hx
    subst e0
    obtain ⟨r, st, e0, hx2⟩ := tR_inv hx1
    subst e0
    obtain ⟨g3, hx3⟩ := oB_inv hx2
    obtain ⟨c', vs, hr, hx4⟩ := hO_inv hx3
    obtain ⟨hc, hx5⟩ := oB_inv hx4
    obtain ⟨hv, hx6⟩ := oB_inv hx5
    obtain ⟨hf, hx7⟩ := oB_inv hx6
    obtain rfl := mgo_inv hx7
    obtain ⟨s1, s2⟩ := hE.set (x := .inr (c', vs.set b v)) (Nat.le_of_ble_eq_true g3) hr
    refine ⟨_, (oB_eq (Nat.ble_eq_true_of_le (hE.2.2.1 r (Nat.le_of_ble_eq_true g3)))).trans ((hO_eq (hE.1 r _ hr)).trans ((oB_eq hc).trans ((oB_eq (by rw [List.length_map]; exact hv)).trans ((oB_eq (r_fit hf)).trans ?_)))), s1, s2, List.length_set⟩
    rw [rE_set]
    rfl
  | iaload =>
    obtain ⟨i, st, e0, hx1⟩ := tI_inv hx
    subst e0
    obtain ⟨r, st, e0, hx2⟩ := tR_inv hx1
    subst e0
    cases g3 : Nat.ble mn0 r with
    | true =>
      rw [g3, cond_true] at hx2
      obtain ⟨c', xs, hr, hx3⟩ := hA_inv hx2
      obtain ⟨hc, hx4⟩ := oB_inv hx3
      obtain ⟨j, hj, hx5⟩ := oI_inv hx4
      obtain rfl := mgo_inv hx5
      refine ⟨HS, ?_, hE, mOff.rf, rfl⟩
      show (bif Nat.ble mn0 (σ r) then _ else _) = _
      rw [Nat.ble_eq_true_of_le (hE.2.2.1 r (Nat.le_of_ble_eq_true g3)), cond_true]
      exact (hA_eq (hE.1 r _ hr)).trans ((oB_eq hc).trans ((oI_eq hj).trans rfl))
    | false =>
      rw [g3, cond_false] at hx2
      have hlt : r < mn0 := by
        rcases Nat.lt_or_ge r mn0 with w | w
        · exact w
        · rw [Nat.ble_eq_true_of_le w] at g3; cases g3
      have e2 : σ r = r := hE.2.2.2 r hlt
      cases h0 : Nat.beq r 0 with
      | true =>
        rw [h0, cond_true] at hx2
        obtain ⟨h1, hx4⟩ := oB_inv hx2
        have := beqN h1
        omega
      | false =>
        rw [h0, cond_false] at hx2
        obtain ⟨h1, hx4⟩ := oB_inv hx2
        obtain ⟨j, hj, hx5⟩ := oI_inv hx4
        obtain rfl := mgo_inv hx5
        refine ⟨HS, ?_, hE, mOff.rf, rfl⟩
        show (bif Nat.ble mn0 (σ r) then _ else (bif Nat.beq (σ r) 0 then _ else oB (Nat.blt (σ r) 3) (oI i 4 fun j => mgo (pc + 1) (rL σ loc) (.int ((roA (σ r)).getD j 0) :: st.map (cV σ)) HS nc ns))) = _
        rw [e2, g3, cond_false, h0, cond_false, oB_eq h1, oI_eq hj]
        rfl
  | baload =>
    obtain ⟨i, st, e0, hx1⟩ := tI_inv hx
    subst e0
    obtain ⟨r, st, e0, hx2⟩ := tR_inv hx1
    subst e0
    obtain ⟨g3, hx3⟩ := oB_inv hx2
    obtain ⟨c', xs, hr, hx4⟩ := hA_inv hx3
    obtain ⟨hc, hx5⟩ := oB_inv hx4
    obtain ⟨j, hj, hx6⟩ := oI_inv hx5
    obtain rfl := mgo_inv hx6
    exact ⟨HS, (oB_eq (Nat.ble_eq_true_of_le (hE.2.2.1 r (Nat.le_of_ble_eq_true g3)))).trans ((hA_eq (hE.1 r _ hr)).trans ((oB_eq hc).trans ((oI_eq hj).trans rfl))), hE, mOff.rf, rfl⟩
  | iastore =>
    obtain ⟨x, st, e0, hx1⟩ := tI_inv hx
    subst e0
    obtain ⟨i, st, e0, hx2⟩ := tI_inv hx1
    subst e0
    obtain ⟨r, st, e0, hx3⟩ := tR_inv hx2
    subst e0
    obtain ⟨g3, hx4⟩ := oB_inv hx3
    obtain ⟨c', xs, hr, hx5⟩ := hA_inv hx4
    obtain ⟨hc, hx6⟩ := oB_inv hx5
    obtain ⟨j, hj, hx7⟩ := oI_inv hx6
    obtain rfl := mgo_inv hx7
    obtain ⟨s1, s2⟩ := hE.set (x := .inl (0, xs.set j x)) (Nat.le_of_ble_eq_true g3) hr
    exact ⟨_, (oB_eq (Nat.ble_eq_true_of_le (hE.2.2.1 r (Nat.le_of_ble_eq_true g3)))).trans ((hA_eq (hE.1 r _ hr)).trans ((oB_eq hc).trans ((oI_eq hj).trans rfl))), s1, s2, List.length_set⟩
  | bastore =>
    obtain ⟨x, st, e0, hx1⟩ := tI_inv hx
    subst e0
    obtain ⟨i, st, e0, hx2⟩ := tI_inv hx1
    subst e0
    obtain ⟨r, st, e0, hx3⟩ := tR_inv hx2
    subst e0
    obtain ⟨g3, hx4⟩ := oB_inv hx3
    obtain ⟨c', xs, hr, hx5⟩ := hA_inv hx4
    obtain ⟨j, hj, hx6⟩ := oI_inv hx5
    have pre : ∀ F : Nat → List Int32 → Option mO, oB (Nat.ble mn0 (σ r)) (hA HS (σ r) F) = F c' xs := fun F => (oB_eq (Nat.ble_eq_true_of_le (hE.2.2.1 r (Nat.le_of_ble_eq_true g3)))).trans (hA_eq (hE.1 r _ hr))
    cases e1 : Nat.beq c' 1 with
    | true =>
      rw [e1, cond_true] at hx6
      obtain rfl := mgo_inv hx6
      obtain ⟨s1, s2⟩ := hE.set (x := .inl (1, xs.set j (vp_nar .byte x))) (Nat.le_of_ble_eq_true g3) hr
      refine ⟨_, (pre _).trans ((oI_eq hj).trans ?_), s1, s2, List.length_set⟩
      dsimp only
      rw [e1]
      rfl
    | false =>
      rw [e1, cond_false] at hx6
      obtain ⟨hc, hx7⟩ := oB_inv hx6
      obtain rfl := mgo_inv hx7
      obtain ⟨s1, s2⟩ := hE.set (x := .inl (2, xs.set j (vp_nar .boolean x))) (Nat.le_of_ble_eq_true g3) hr
      refine ⟨_, (pre _).trans ((oI_eq hj).trans ?_), s1, s2, List.length_set⟩
      dsimp only
      rw [e1]
      exact (oB_eq hc).trans rfl
  | aaload =>
    obtain ⟨i, st, e0, hx1⟩ := tI_inv hx
    subst e0
    obtain ⟨r, st, e0, hx2⟩ := tR_inv hx1
    subst e0
    obtain ⟨c', vs, hr, hx3⟩ := hO_inv hx2
    obtain ⟨hc, hx4⟩ := oB_inv hx3
    obtain ⟨j, hj, hx5⟩ := oI_inv hx4
    obtain ⟨v, hv, hx6⟩ := oR_inv hx5
    obtain rfl := mgo_inv hx6
    exact ⟨HS, (hO_eq (hE.1 r _ hr)).trans ((oB_eq hc).trans ((oI_eq (by rw [List.length_map]; exact hj)).trans ((oR_eq (v := σ v) (by rw [List.getElem?_map, hv]; rfl)).trans rfl))), hE, mOff.rf, rfl⟩
  | aastore =>
    obtain ⟨v, st, e0, hx1⟩ := tR_inv hx
    subst e0
    obtain ⟨i, st, e0, hx2⟩ := tI_inv hx1
    subst e0
    obtain ⟨r, st, e0, hx3⟩ := tR_inv hx2
    subst e0
    obtain ⟨g3, hx4⟩ := oB_inv hx3
    obtain ⟨c', vs, hr, hx5⟩ := hO_inv hx4
    obtain ⟨cv, ws, hv, hx6⟩ := hO_inv hx5
    obtain ⟨hc, hx7⟩ := oB_inv hx6
    obtain ⟨j, hj, hx8⟩ := oI_inv hx7
    obtain rfl := mgo_inv hx8
    obtain ⟨s1, s2⟩ := hE.set (x := .inr (c', vs.set j (.ref v))) (Nat.le_of_ble_eq_true g3) hr
    refine ⟨_, (oB_eq (Nat.ble_eq_true_of_le (hE.2.2.1 r (Nat.le_of_ble_eq_true g3)))).trans ((hO_eq (hE.1 r _ hr)).trans ((hO_eq (hE.1 v _ hv)).trans ((oB_eq hc).trans ((oI_eq (by rw [List.length_map]; exact hj)).trans ?_)))), s1, s2, List.length_set⟩
    rw [rE_set]
    rfl
  | arraylength =>
    obtain ⟨r, st, e0, hx1⟩ := tR_inv hx
    subst e0
    cases g3 : Nat.ble mn0 r with
    | true =>
      rw [g3, cond_true] at hx1
      obtain ⟨c', xs, hr, hx2⟩ := hA_inv hx1
      obtain ⟨hc, hx3⟩ := oB_inv hx2
      obtain rfl := mgo_inv hx3
      refine ⟨HS, ?_, hE, mOff.rf, rfl⟩
      show (bif Nat.ble mn0 (σ r) then _ else _) = _
      rw [Nat.ble_eq_true_of_le (hE.2.2.1 r (Nat.le_of_ble_eq_true g3)), cond_true]
      exact (hA_eq (hE.1 r _ hr)).trans ((oB_eq hc).trans rfl)
    | false =>
      rw [g3, cond_false] at hx1
      obtain ⟨h0, hx2⟩ := oB_inv hx1
      obtain ⟨h1, hx3⟩ := oB_inv hx2
      have := beqN h1
      omega
  | new i =>
    obtain ⟨_, hx1⟩ := oB_inv hx
    obtain rfl := mgo_inv hx1
    exact absurd hn (by dsimp only; omega)
  | newarray t =>
    obtain ⟨n, st, e0, hx1⟩ := tI_inv hx
    cases e : mak t with
    | none => rw [e] at hx1; cases hx1
    | some kd =>
      rw [e] at hx1
      obtain ⟨_, hx2⟩ := oN_inv hx1
      obtain ⟨_, hx3⟩ := oB_inv hx2
      obtain rfl := mgo_inv hx3
      exact absurd hn (by dsimp only; omega)
  | anewarray i =>
    obtain ⟨n, st, e0, hx1⟩ := tI_inv hx
    obtain ⟨_, hx2⟩ := oB_inv hx1
    obtain ⟨_, hx3⟩ := oN_inv hx2
    obtain ⟨_, hx4⟩ := oB_inv hx3
    obtain rfl := mgo_inv hx4
    exact absurd hn (by dsimp only; omega)
  | invokevirtual i =>
    have other : ∀ F : Option mO, F = some (.inl q) → F = (oP (marg a) stk fun as st => tR st fun r rest => hO hs r fun c _ => oB (Nat.beq c (mown a)) (oB (Nat.blt c 6) (oB (Nat.ble (mcat rest) 8) (some (.inr (.inr (a, .ref r :: as, (pc + 3, loc, rest, hs, nc, ns)))))))) → False := by
      intro F h1 h2
      rw [h2] at h1
      obtain ⟨as, st, -, hx1⟩ := oP_inv h1
      obtain ⟨r, st, -, hx2⟩ := tR_inv hx1
      obtain ⟨c', vs, -, hx3⟩ := hO_inv hx2
      obtain ⟨-, hx4⟩ := oB_inv hx3
      obtain ⟨-, hx5⟩ := oB_inv hx4
      obtain ⟨-, hx6⟩ := oB_inv hx5
      cases hx6
    match b, hx with
    | 0, hx => exact (other _ hx rfl).elim
    | 1, hx => exact (other _ hx rfl).elim
    | 2, hx => exact (other _ hx rfl).elim
    | 3, hx => exact (other _ hx rfl).elim
    | 4, hx => exact (other _ hx rfl).elim
    | 5, hx => exact (other _ hx rfl).elim
    | 6, hx => exact (other _ hx rfl).elim
    | 7, hx => exact (other _ hx rfl).elim
    | 8, hx =>
      obtain ⟨r, st, e0, hx1⟩ := tR_inv hx
      subst e0
      obtain ⟨h1, hx2⟩ := oB_inv hx1
      obtain ⟨h2, hx3⟩ := oB_inv hx2
      obtain ⟨h6, hx4⟩ := oB_inv hx3
      obtain rfl := mgo_inv hx4
      refine ⟨HS, ?_, hE, mOff.rf, rfl⟩
      show oB (Nat.ble 3 (σ r)) (oB (Nat.blt (σ r) 10) (oB (Nat.ble (mcat (st.map (cV σ))) 8) (mgo (pc + 3) (rL σ loc) (.int (Int32.ofNat (roS (σ r)).length) :: st.map (cV σ)) HS nc ns))) = _
      rw [hE.2.2.2 r (lt_of_blt h2), oB_eq h1, oB_eq h2, oB_eq (by rw [r_cat]; exact h6)]
      rfl
    | 9, hx =>
      obtain ⟨x, st, e0, hx0⟩ := tI_inv hx
      subst e0
      obtain ⟨r, st, e0, hx1⟩ := tR_inv hx0
      subst e0
      obtain ⟨h1, hx2⟩ := oB_inv hx1
      obtain ⟨h2, hx3⟩ := oB_inv hx2
      obtain ⟨h6, hx4⟩ := oB_inv hx3
      obtain ⟨j, hj, hx5⟩ := oI_inv hx4
      obtain rfl := mgo_inv hx5
      refine ⟨HS, ?_, hE, mOff.rf, rfl⟩
      show oB (Nat.ble 3 (σ r)) (oB (Nat.blt (σ r) 10) (oB (Nat.ble (mcat (st.map (cV σ))) 8) (oI x (roS (σ r)).length fun j => mgo (pc + 3) (rL σ loc) (.int ((roS (σ r)).getD j 0) :: st.map (cV σ)) HS nc ns))) = _
      rw [hE.2.2.2 r (lt_of_blt h2), oB_eq h1, oB_eq h2, oB_eq (by rw [r_cat]; exact h6), oI_eq hj]
      rfl
    | n + 10, hx => exact (other _ hx rfl).elim
  | invokestatic i =>
    have other : ∀ F : Option mO, F = some (.inl q) → F = (oP (marg a) stk fun as rest => oB (Nat.ble (mcat rest) 8) (some (.inr (.inr (a, as, (pc + 3, loc, rest, hs, nc, ns)))))) → False := by
      intro F h1 h2
      rw [h2] at h1
      obtain ⟨as, rest, -, hx⟩ := oP_inv h1
      obtain ⟨-, hx⟩ := oB_inv hx
      cases hx
    match b, hx with
    | 0, hx => exact (other _ hx rfl).elim
    | 1, hx => exact (other _ hx rfl).elim
    | 2, hx => exact (other _ hx rfl).elim
    | 3, hx => exact (other _ hx rfl).elim
    | 4, hx =>
      obtain ⟨n, st, e0, hx1⟩ := tI_inv hx
      subst e0
      obtain ⟨dp, st, e0, hx2⟩ := tI_inv hx1
      subst e0
      obtain ⟨d, st, e0, hx3⟩ := tR_inv hx2
      subst e0
      obtain ⟨g3, hx4⟩ := oB_inv hx3
      obtain ⟨sp, st, e0, hx5⟩ := tI_inv hx4
      subst e0
      obtain ⟨r, st, e0, hx6⟩ := tR_inv hx5
      subst e0
      obtain ⟨g4, hx7⟩ := oB_inv hx6
      obtain ⟨k1, xs, hr, hx8⟩ := hA_inv hx7
      obtain ⟨k2, ys, hr2, hx9⟩ := hA_inv hx8
      obtain ⟨e1, hx10⟩ := oB_inv hx9
      obtain ⟨e2, hx11⟩ := oB_inv hx10
      obtain ⟨h1, hx12⟩ := oN_inv hx11
      obtain ⟨h2, hx13⟩ := oN_inv hx12
      obtain ⟨h3, hx14⟩ := oN_inv hx13
      obtain ⟨h4, hx15⟩ := oB_inv hx14
      obtain ⟨h5, hx16⟩ := oB_inv hx15
      obtain ⟨h6, hx17⟩ := oB_inv hx16
      obtain rfl := mgo_inv hx17
      obtain ⟨s1, s2⟩ := hE.set (x := .inl (0, mcpy xs ys sp.toNatClampNeg dp.toNatClampNeg n.toNatClampNeg)) (Nat.le_of_ble_eq_true g3) hr2
      exact ⟨_, (oB_eq (Nat.ble_eq_true_of_le (hE.2.2.1 d (Nat.le_of_ble_eq_true g3)))).trans ((oB_eq (Nat.ble_eq_true_of_le (hE.2.2.1 r (Nat.le_of_ble_eq_true g4)))).trans ((hA_eq (hE.1 r _ hr)).trans ((hA_eq (hE.1 d _ hr2)).trans ((oB_eq e1).trans ((oB_eq e2).trans ((oN_eq h1).trans ((oN_eq h2).trans ((oN_eq h3).trans ((oB_eq h4).trans ((oB_eq h5).trans ((oB_eq (by rw [r_cat]; exact h6)).trans rfl))))))))))), s1, s2, List.length_set⟩
    | 5, hx =>
      obtain ⟨v, st, e0, hx1⟩ := tI_inv hx
      subst e0
      obtain ⟨u, st, e0, hx2⟩ := tI_inv hx1
      subst e0
      obtain ⟨h6, hx3⟩ := oB_inv hx2
      obtain rfl := mgo_inv hx3
      exact ⟨HS, (oB_eq (by rw [r_cat]; exact h6)).trans rfl, hE, mOff.rf, rfl⟩
    | 6, hx =>
      obtain ⟨v, st, e0, hx1⟩ := tI_inv hx
      subst e0
      obtain ⟨u, st, e0, hx2⟩ := tI_inv hx1
      subst e0
      obtain ⟨h6, hx3⟩ := oB_inv hx2
      obtain rfl := mgo_inv hx3
      exact ⟨HS, (oB_eq (by rw [r_cat]; exact h6)).trans rfl, hE, mOff.rf, rfl⟩
    | 7, hx =>
      obtain ⟨v, st, e0, hx1⟩ := tL_inv hx
      subst e0
      obtain ⟨u, st, e0, hx2⟩ := tL_inv hx1
      subst e0
      obtain ⟨h6, hx3⟩ := oB_inv hx2
      obtain rfl := mgo_inv hx3
      exact ⟨HS, (oB_eq (by rw [r_cat]; exact h6)).trans rfl, hE, mOff.rf, rfl⟩
    | n + 8, hx => exact (other _ hx rfl).elim
  | invokespecial i =>
    have other : ∀ F : Option mO, F = some (.inl q) → F = (oP (marg a) stk fun as st => tR st fun r rest => oB (Nat.ble (mcat rest) 8) (some (.inr (.inr (a, .ref r :: as, (pc + 3, loc, rest, hs, nc, ns)))))) → False := by
      intro F h1 h2
      rw [h2] at h1
      obtain ⟨as, rest, -, hx⟩ := oP_inv h1
      obtain ⟨r, st, -, hx⟩ := tR_inv hx
      obtain ⟨-, hx⟩ := oB_inv hx
      cases hx
    match b, hx with
    | 0, hx => exact (other _ hx rfl).elim
    | 1, hx => exact (other _ hx rfl).elim
    | 2, hx =>
      obtain ⟨r, st, e0, hx1⟩ := tR_inv hx
      subst e0
      obtain ⟨h6, hx2⟩ := oB_inv hx1
      obtain rfl := mgo_inv hx2
      exact ⟨HS, (oB_eq (by rw [r_cat]; exact h6)).trans rfl, hE, mOff.rf, rfl⟩
    | n + 3, hx => exact (other _ hx rfl).elim
  | return_ =>
    obtain ⟨-, hx1⟩ := tE_inv hx
    obtain ⟨-, hx2⟩ := oB_inv hx1
    cases hx2
  | ireturn =>
    obtain ⟨x, st, -, hx1⟩ := tI_inv hx
    obtain ⟨-, hx2⟩ := tE_inv hx1
    split at hx2
    · cases hx2
    · obtain ⟨-, hx3⟩ := oB_inv hx2
      cases hx3
    · cases hx2
  | lreturn =>
    obtain ⟨x, st, -, hx1⟩ := tL_inv hx
    obtain ⟨-, hx2⟩ := tE_inv hx1
    obtain ⟨-, hx3⟩ := oB_inv hx2
    cases hx3
  | areturn =>
    obtain ⟨x, st, -, hx1⟩ := tR_inv hx
    obtain ⟨-, hx2⟩ := tE_inv hx1
    split at hx2
    · cases hx2
    · cases hx2
  | _ => exact absurd (show (none : Option mO) = some (.inl q) from hx) (fun w => by cases w)
end FRM
