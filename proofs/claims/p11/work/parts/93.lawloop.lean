/-! the law's loop; what the class and the reference do does not hang on the script -/
theorem mexec_sc {sc sc' : List Int32} {y : Nat} (hy : y < 184) {ins : Instr} {a b : Nat} {z : Int} {pc : Nat} {loc : mL} {stk : List Value} {hs : mH} {nc ns : Nat} : mexec sc y ins a b z pc loc stk hs nc ns = mexec sc' y ins a b z pc loc stk hs nc ns := by
  have hb : Nat.beq y 184 = false := by
    cases q : Nat.beq y 184 with
    | false => rfl
    | true => have := beqN q; omega
  cases ins <;> first
    | rfl
    | (simp only [mexec, hb, oB, cond_false])
theorem mrun_sc {sc sc' : List Int32} : ∀ {n d y : Nat} {q : mS} {x : Option Value × mH × Nat × Nat}, y < 184 → mrun sc n d y q = some x → mrun sc' n d y q = some x
  | 0, _, _, _, _, _, h => by cases h
  | n + 1, d, y, q, x, hy, h => by
    have e : mstep sc y q = mstep sc' y q := by
      unfold mstep
      split
      · rfl
      · exact mexec_sc hy
    rcases mrun_inv h with ⟨q', h1, h2, h3⟩ | ⟨v, h1, rfl⟩ | ⟨y', as, q', d', v, hs', c', s', h1, rfl, h3, h4, h5⟩
    · rw [mrun, ← e, h1]
      simp only [h2, cond_true]
      exact mrun_sc hy h3
    · rw [mrun, ← e, h1]
    · obtain ⟨ins, len, a, b, z, hd, hk, hx2⟩ := mstep_inv h1
      have hy' : y' < 184 := (mcall_inv hk hx2).2.1
      rw [mrun, ← e, h1]
      simp only [mrun_sc (sc' := sc') hy' h3]
      have g : (mmon q q' && Nat.ble (margs as).length (mmaxL y')) = true := by rw [h4.1, Nat.ble_eq_true_of_le h4.2]; rfl
      rw [g, cond_true]
      exact mrun_sc hy h5
theorem mEnds.sc {sc' : List Int32} (sc : List Int32) {d y : Nat} {q : mS} {x : Option Value × mH × Nat × Nat} (hy : y < 184) (h : mEnds sc' d y q x) : mEnds sc d y q x := by
  obtain ⟨n, hn⟩ := h
  exact ⟨n, mrun_sc hy hn⟩
theorem lf_1441 : mfetch 184 1441 = some (1441, .iinc 3 6, 3, 0, 0, 0) := by decide +kernel
theorem lf_1444 : mfetch 184 1444 = some (1444, .goto (-1426), 3, 0, 0, 0) := by decide +kernel
theorem lf_1447 : mfetch 184 1447 = some (1447, .iconst 1, 1, 0, 0, 0) := by decide +kernel
theorem lf_1448 : mfetch 184 1448 = some (1448, .ireturn, 1, 0, 0, 0) := by decide +kernel
section LAW
variable {sc : List Int32} {d : Nat} {HS : mH} {nc ns i NC NS : Nat}
theorem i8_6 : (Int8.ofInt 6).toInt32 = nI 6 := by decide +kernel
theorem law_head0 (k : mFin sc d NC NS (24, lawL i, [.int (nI sc.length - nI 6), .int (nI i)], HS, nc, ns)) : mFin sc d NC NS (18, lawL i, [], HS, nc, ns) := by
  refine mFin.steps 4 (q' := (23, lawL i, [.int (Int8.ofInt 6).toInt32, .int (Int32.ofNat sc.length), .int (nI i)], HS, nc, ns)) ?_ ?_
  · simp only [msteps]
    rw [step_fetch (i := (18, .iload_n 3, 1, 0, 0, 0)) rfl rfl]
    simp only [mmon_rf, cond_true]
    rw [step_fetch (i := (19, .aload_n 0, 1, 0, 0, 0)) rfl rfl]
    simp only [mmon_rf, cond_true]
    rw [step_fetch (i := (20, .arraylength, 1, 0, 0, 0)) rfl rfl]
    simp only [mmon_rf, cond_true]
    rw [step_fetch (i := (21, .bipush 6, 2, 0, 0, 0)) rfl rfl]
    simp only [mmon_rf, cond_true]
  · rw [i8_6]
    exact mFin.step (step_fetch (i := (23, .isub, 1, 0, 0, 0)) rfl rfl) mmon_rf k
theorem law_cmp {L i : Nat} (hL : L < 2 ^ 30) (hi : i < 2 ^ 30) : (nI L - nI 6 < nI i) ↔ L < i + 6 := by
  rw [Int32.lt_iff_toInt_lt, pk_sub_toInt hL (by decide), nI_toInt (by omega)]
  omega
theorem law_in (hL : sc.length < 2 ^ 30) (h : i + 6 ≤ sc.length) (k : mFin sc d NC NS (27, lawL i, [], HS, nc, ns)) : mFin sc d NC NS (18, lawL i, [], HS, nc, ns) := by
  refine law_head0 (mFin.step (step_fetch (i := (24, .if_icmp .gt 1423, 3, 0, 0, 0)) rfl ?_) mmon_rf k)
  show (bif mtk .gt (nI i) (nI sc.length - nI 6) then _ else mgo 27 (lawL i) [] HS nc ns) = _
  have e : mtk .gt (nI i) (nI sc.length - nI 6) = false := decide_eq_false (fun q => by rw [law_cmp hL (by omega)] at q; omega)
  rw [e]; rfl
theorem law_out (hL : sc.length < 2 ^ 30) (hi : i < 2 ^ 30) (h : sc.length < i + 6) : mFin sc d nc ns (18, lawL i, [], HS, nc, ns) := by
  refine law_head0 (mFin.step (q' := (1447, lawL i, [], HS, nc, ns)) (step_fetch (i := (24, .if_icmp .gt 1423, 3, 0, 0, 0)) rfl ?_) mmon_rf ?_)
  · show (bif mtk .gt (nI i) (nI sc.length - nI 6) then mjp 24 1423 (lawL i) [] HS nc ns else _) = _
    have e : mtk .gt (nI i) (nI sc.length - nI 6) = true := decide_eq_true ((law_cmp hL hi).mpr h)
    rw [e]; rfl
  · refine mFin.step (q' := (1448, lawL i, [.int 1], HS, nc, ns)) (step_fetch (i := (1447, .iconst 1, 1, 0, 0, 0)) lf_1447 rfl) mmon_rf ?_
    exact ⟨HS, mEnds.ret (q := (1448, lawL i, [.int 1], HS, nc, ns)) (step_fetch (i := (1448, .ireturn, 1, 0, 0, 0)) lf_1448 rfl)⟩
theorem law_inc (k : mFin sc d NC NS (18, lawL (i + 6), [], HS, nc, ns)) : mFin sc d NC NS (1441, lawL i, [], HS, nc, ns) := by
  refine mFin.step (q' := (1444, lawL (i + 6), [], HS, nc, ns)) (step_fetch (i := (1441, .iinc 3 6, 3, 0, 0, 0)) lf_1441 ?_) mmon_rf ?_
  · have e : nI (i + 6) = nI i + Int32.ofInt 6 := by rw [← nI_add]; rfl
    show mgo 1444 [some (.ref 0), some (.ref 10), some (.ref 141), some (.int (nI i + Int32.ofInt 6))] [] HS nc ns = _
    rw [← e]; rfl
  · refine mFin.step (q' := (18, lawL (i + 6), [], HS, nc, ns)) (step_fetch (i := (1444, .goto (-1426), 3, 0, 0, 0)) lf_1444 ?_) mmon_rf k
    show mjp 1444 (-1426) (lawL (i + 6)) [] HS nc ns = _
    exact mjp_eq (by decide)
theorem i8_63 : (Int8.ofInt 63).toInt32 = 63 := by decide +kernel
/-- which call it is -/
theorem law_which (hL : sc.length < 2 ^ 30) (h : i < sc.length) {j : Nat} (e : sc.getD i 0 &&& 63 = nI j) (k : mFin sc d NC NS (33, lawL i, [.int (nI j)], HS, nc, ns)) : mFin sc d NC NS (27, lawL i, [], HS, nc, ns) := by
  refine mFin.step (q' := (28, lawL i, [.ref 0], HS, nc, ns)) (step_fetch (i := (27, .aload_n 0, 1, 0, 0, 0)) rfl rfl) mmon_rf ?_
  refine mFin.step (q' := (29, lawL i, [.int (nI i), .ref 0], HS, nc, ns)) (step_fetch (i := (28, .iload_n 3, 1, 0, 0, 0)) rfl rfl) mmon_rf ?_
  refine law_num (j := i) rfl (midx_of h (by omega)) ?_
  refine mFin.step (q' := (32, lawL i, [.int (Int8.ofInt 63).toInt32, .int (sc.getD i 0)], HS, nc, ns)) (step_fetch (i := (30, .bipush 63, 2, 0, 0, 0)) rfl rfl) mmon_rf ?_
  rw [i8_63]
  refine mFin.step (q' := (33, lawL i, [.int (sc.getD i 0 &&& 63)], HS, nc, ns)) (step_fetch (i := (32, .iand, 1, 0, 0, 0)) rfl rfl) mmon_rf ?_
  rw [e]
  exact k
def lawOffs : Array Int := #[171, 194, 217, 230, 243, 266, 299, 322, 345, 388, 431, 454, 487, 520, 553, 576, 609, 652, 685, 698, 741, 784, 817, 850, 893, 956, 999, 1042, 1065, 1088, 1111, 1144, 1187, 1210, 1233, 1276, 1319, 1372, 1385]
theorem law_sw {j : Nat} {off : Int} {t : Nat} (hj : j < 39) (ho : lawOffs[j]? = some off) (ht : (33 : Int) + off = (t : Int)) (k : mFin sc d NC NS (t, lawL i, [], HS, nc, ns)) : mFin sc d NC NS (33, lawL i, [.int (nI j)], HS, nc, ns) := by
  refine mFin.step (step_fetch (i := (33, .tableswitch 1408 0 38 lawOffs, 171, 0, 0, 0)) rfl ?_) mmon_rf k
  have e : (nI j).toInt = (j : Int) := nI_toInt (by omega)
  show (if (nI j).toInt < 0 ∨ 38 < (nI j).toInt then mjp 33 1408 (lawL i) [] HS nc ns else match lawOffs[((nI j).toInt - 0).toNat]? with
    | some off => mjp 33 off (lawL i) [] HS nc ns
    | none => none) = _
  rw [e, if_neg (by omega), show ((j : Int) - 0).toNat = j by omega, ho]
  exact mjp_eq ht
theorem law_skip {j : Nat} (hj : j < 64) (h : 39 ≤ j) (k : mFin sc d NC NS (1441, lawL i, [], HS, nc, ns)) : mFin sc d NC NS (33, lawL i, [.int (nI j)], HS, nc, ns) := by
  refine mFin.step (step_fetch (i := (33, .tableswitch 1408 0 38 lawOffs, 171, 0, 0, 0)) rfl ?_) mmon_rf k
  have e : (nI j).toInt = (j : Int) := nI_toInt (by omega)
  show (if (nI j).toInt < 0 ∨ 38 < (nI j).toInt then mjp 33 1408 (lawL i) [] HS nc ns else match lawOffs[((nI j).toInt - 0).toNat]? with
    | some off => mjp 33 off (lawL i) [] HS nc ns
    | none => none) = _
  rw [e, if_pos (by omega)]
  exact mjp_eq (by decide)
end LAW
