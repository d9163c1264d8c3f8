section Q90
/-! runs that a program decides -/
def eqE (a b : mE) : Bool := match a, b with
  | .inl (k, xs), .inl (j, ys) => Nat.beq k j && decide (xs = ys)
  | .inr (k, xs), .inr (j, ys) => Nat.beq k j && decide (xs = ys)
  | _, _ => false
def eqH : mH → mH → Bool
  | [], [] => true
  | a :: as, b :: bs => eqE a b && eqH as bs
  | _, _ => false
def eqR (x : Option (Option Value × mH × Nat × Nat)) (v : Option Value) (hs : mH) (c s : Nat) : Bool := match x with
  | some (v', hs', c', s') => decide (v' = v) && (eqH hs' hs && (Nat.beq c' c && Nat.beq s' s))
  | none => false
theorem eqE_ok {a b : mE} (h : eqE a b = true) : a = b := by
  obtain ⟨k, xs⟩ | ⟨k, xs⟩ := a <;> obtain ⟨j, ys⟩ | ⟨j, ys⟩ := b
  · obtain ⟨h1, h2⟩ := mand h
    rw [beqN h1, of_decide_eq_true h2]
  · cases h
  · cases h
  · obtain ⟨h1, h2⟩ := mand h
    rw [beqN h1, of_decide_eq_true h2]
theorem eqH_ok : ∀ {a b : mH}, eqH a b = true → a = b
  | [], [], _ => rfl
  | [], _ :: _, h => by cases h
  | _ :: _, [], h => by cases h
  | a :: as, b :: bs, h => by
    obtain ⟨h1, h2⟩ := mand h
    rw [eqE_ok h1, eqH_ok h2]
theorem eqR_ok {x : Option (Option Value × mH × Nat × Nat)} {v : Option Value} {hs : mH} {c s : Nat} (h : eqR x v hs c s = true) : x = some (v, hs, c, s) := by
  obtain _ | ⟨v', hs', c', s'⟩ := x
  · cases h
  · obtain ⟨h1, h2⟩ := mand h
    obtain ⟨h2, h3⟩ := mand h2
    obtain ⟨h3, h4⟩ := mand h3
    rw [of_decide_eq_true h1, eqH_ok h2, beqN h3, beqN h4]
/-! the heaps of new objects -/
def s0T : List (List Int32) := [[], [], [], [], [], [], [], [], [], [], [0, 0, 0, 0, 0, 0, 0, 0], [0, 0, 0, 0, 0, 0, 0, 0, 0, 0, 0, 0], [0, 0, 0, 0, 0, 0], [0, 0, 0, 0, 0, 0], [0, 0, 0, 0, 0, 0], [(-1), (-1), (-1), (-1), (-1), (-1)], [0, 0, 0, 0, 0, 0], [2, 2, 2, 2, 2], [10, 10, 10, 10, 10, 10, 10, 10], [0, 0], [0, 0], [0, 0, 0, 0, 0, 0, 0, 0, 0, 0], [0, 0, 0, 0], [0, 0, 0, 0], [0, 0, 0, 0, 0, 0], [0, 0, 0, 0, 0, 0], [0, 0, 0, 0, 0, 0], [0, 0, 0, 0, 0, 0, 0, 0, 0, 0, 0], [], [0, 0, 0, 0, 0, 0, 0, 0, 0, 0, 0, 0], [0, 0, 0, 0, 0, 0], [0, 0, 0, 0, 0, 0], [0, 0, 0, 0, 0, 0], [(-1), (-1), (-1), (-1), (-1), (-1)], [0, 0, 0, 0, 0, 0], [2, 2, 2, 2, 2], [10, 10, 10, 10, 10, 10, 10, 10], [0, 0, 0, 0, 0, 0, 0, 0, 0, 0, 0, 0], [0, 0, 0, 0, 0, 0], [0, 0, 0, 0, 0, 0], [0, 0, 0, 0, 0, 0], [(-1), (-1), (-1), (-1), (-1), (-1)], [0, 0, 0, 0, 0, 0], [2, 2, 2, 2, 2], [10, 10, 10, 10, 10, 10, 10, 10], [0, 0, 0, 0, 0, 0, 0, 0, 0, 0, 0, 0], [0, 0, 0, 0, 0, 0], [0, 0, 0, 0, 0, 0], [0, 0, 0, 0, 0, 0], [(-1), (-1), (-1), (-1), (-1), (-1)], [0, 0, 0, 0, 0, 0], [2, 2, 2, 2, 2], [10, 10, 10, 10, 10, 10, 10, 10], [0, 0, 0, 0, 0, 0, 0, 0, 0, 0, 0, 0], [0, 0, 0, 0, 0, 0], [0, 0, 0, 0, 0, 0], [0, 0, 0, 0, 0, 0], [(-1), (-1), (-1), (-1), (-1), (-1)], [0, 0, 0, 0, 0, 0], [2, 2, 2, 2, 2], [10, 10, 10, 10, 10, 10, 10, 10], [0, 0, 0, 0, 0, 0, 0, 0, 0, 0, 0, 0], [0, 0, 0, 0, 0, 0], [0, 0, 0, 0, 0, 0], [0, 0, 0, 0, 0, 0], [(-1), (-1), (-1), (-1), (-1), (-1)], [0, 0, 0, 0, 0, 0], [2, 2, 2, 2, 2], [10, 10, 10, 10, 10, 10, 10, 10], [0, 0, 0, 0, 0, 0, 0, 0, 0, 0, 0, 0], [0, 0, 0, 0, 0, 0], [0, 0, 0, 0, 0, 0], [0, 0, 0, 0, 0, 0], [(-1), (-1), (-1), (-1), (-1), (-1)], [0, 0, 0, 0, 0, 0], [2, 2, 2, 2, 2], [10, 10, 10, 10, 10, 10, 10, 10], [0, 0, 0, 0, 0, 0, 0, 0, 0, 0, 0, 0], [0, 0, 0, 0, 0, 0], [0, 0, 0, 0, 0, 0], [0, 0, 0, 0, 0, 0], [(-1), (-1), (-1), (-1), (-1), (-1)], [0, 0, 0, 0, 0, 0], [2, 2, 2, 2, 2], [10, 10, 10, 10, 10, 10, 10, 10], [0, 0, 0, 0, 0, 0, 0, 0, 0, 0, 0, 0], [0, 0, 0, 0, 0, 0], [0, 0, 0, 0, 0, 0], [0, 0, 0, 0, 0, 0], [(-1), (-1), (-1), (-1), (-1), (-1)], [0, 0, 0, 0, 0, 0], [2, 2, 2, 2, 2], [10, 10, 10, 10, 10, 10, 10, 10], [0, 0, 0, 0, 0, 0, 0, 0, 0, 0, 0, 0], [0, 0, 0, 0, 0, 0], [0, 0, 0, 0, 0, 0], [0, 0, 0, 0, 0, 0], [(-1), (-1), (-1), (-1), (-1), (-1)], [0, 0, 0, 0, 0, 0], [2, 2, 2, 2, 2], [10, 10, 10, 10, 10, 10, 10, 10], [0, 0, 0, 0, 0, 0, 0, 0, 0, 0, 0, 0], [0, 0, 0, 0, 0, 0], [0, 0, 0, 0, 0, 0], [0, 0, 0, 0, 0, 0], [(-1), (-1), (-1), (-1), (-1), (-1)], [0, 0, 0, 0, 0, 0], [2, 2, 2, 2, 2], [10, 10, 10, 10, 10, 10, 10, 10], [0, 0, 0, 0, 0, 0, 0, 0, 0, 0, 0, 0], [0, 0, 0, 0, 0, 0], [0, 0, 0, 0, 0, 0], [0, 0, 0, 0, 0, 0], [(-1), (-1), (-1), (-1), (-1), (-1)], [0, 0, 0, 0, 0, 0], [2, 2, 2, 2, 2], [10, 10, 10, 10, 10, 10, 10, 10], [0, 0, 0, 0, 0, 0, 0, 0, 0, 0, 0, 0], [0, 0, 0, 0, 0, 0], [0, 0, 0, 0, 0, 0], [0, 0, 0, 0, 0, 0], [(-1), (-1), (-1), (-1), (-1), (-1)], [0, 0, 0, 0, 0, 0], [2, 2, 2, 2, 2], [10, 10, 10, 10, 10, 10, 10, 10], [0, 0, 0, 0, 0, 0, 0, 0, 0, 0, 0, 0], [0, 0, 0, 0, 0, 0], [0, 0, 0, 0, 0, 0], [0, 0, 0, 0, 0, 0], [(-1), (-1), (-1), (-1), (-1), (-1)], [0, 0, 0, 0, 0, 0], [2, 2, 2, 2, 2], [10, 10, 10, 10, 10, 10, 10, 10], [(-1), 0, 0], [], [(-1), 0, 0], [], [(-1), 0, 0], [], [(-1), 0, 0], []]
def t0T : List (List Int32) := [[], [], [], [], [], [], [], [], [], [], [0, 0, 0, 0, 0, 0, 0, 0, 0, 0, 0, 0, 0, 0, 0, 0, 0, 0, 0, 0, 0, 0, 0, 0, 0, 0, 0, 0, 0], [], [], [], [0, 5, 10, 14, 18, 22, 26, 29], [112, 108, 97, 105, 110, 113, 117, 105, 99, 107, 108, 97, 122, 121, 98, 101, 110, 116, 114, 111, 111, 109, 119, 97, 108, 108, 111, 117, 116], [0, 0, 0, 0, 0, 0], [0, 0, 0, 0, 0, 0, 0, 0, 0, 0, 0, 0, 0, 0, 0, 0, 0, 0], [], [0, 0], [(-4), (-4), (-4), (-4)], [0, 0, 0, 0], []]
def s0 : sg := fun p k => (s0T.getD p []).getD k 0
def t0 : sg := fun p k => (t0T.getD p []).getD k 0
def hD : mH := List.replicate 10 (.inl (0, []))
theorem new_C : mrun [] 1000 10 54 (mentry 54 [.ref 10] (hD ++ [.inr (4, mnew 4)])) = some (none, hp shC s0, 130, 1153) := eqR_ok (by decide +kernel)
def sM (k : Nat) : Nat := if k < 10 then k else k + 131
def hMt : mH := ((hp shM t0).drop 10).map (rE sM)
theorem new_M : mrun [] 300 10 110 (mentry 110 [.ref 141] (hp shC s0 ++ [.inr (5, mnew 5)])) = some (none, hp shC s0 ++ hMt, 12, 2015) := eqR_ok (by decide +kernel)
end Q90
section Q91
/-! the law's run: two small heaps in the large one -/
def sC (k : Nat) : Nat := k
theorem cV_sC (v : Value) : cV sC v = v := by cases v <;> rfl
theorem map_sC (l : List Value) : l.map (cV sC) = l := by
  rw [List.map_congr_left (g := id) (fun v _ => cV_sC v), List.map_id]
def LR (hC hM HS : mH) : Prop := mEmb sC hC HS ∧ mEmb sM hM HS ∧ hC.length = 141 ∧ hM.length = 23
/-- ints are the same under all places -/
def mInts (as : List Value) : Prop := ∀ σ : Nat → Nat, as.map (cV σ) = as
def lawL (i : Nat) : mL := [some (.ref 0), some (.ref 10), some (.ref 141), some (.int (nI i))]
theorem LR.stepC {hC hC' hM HS HS' : mH} (h : LR hC hM HS) (h1 : mEmb sC hC' HS') (h2 : mOff sC hC.length HS HS') (h3 : hC'.length = hC.length) : LR hC' hM HS' := by
  refine ⟨h1, ⟨fun i x hi => ?_, h.2.1.2.1, h.2.1.2.2⟩, h3.trans h.2.2.1, h.2.2.2⟩
  rw [h2.2 (sM i) (fun j hj hl => ?_)]
  · exact h.2.1.1 i x hi
  · rw [h.2.2.1] at hl
    have hj : 10 ≤ j := hj
    show j ≠ (if i < 10 then i else i + 131)
    by_cases q : i < 10
    · rw [if_pos q]; omega
    · rw [if_neg q]; omega
theorem LR.stepM {hC hM hM' HS HS' : mH} (h : LR hC hM HS) (h1 : mEmb sM hM' HS') (h2 : mOff sM hM.length HS HS') (h3 : hM'.length = hM.length) : LR hC hM' HS' := by
  refine ⟨⟨fun i x hi => ?_, h.1.2.1, h.1.2.2⟩, h1, h.2.2.1, h3.trans h.2.2.2⟩
  rw [h2.2 (sC i) (fun j hj hl => ?_)]
  · exact h.1.1 i x hi
  · have hj : 10 ≤ j := hj
    have hi' : i < hC.length := (List.getElem?_eq_some_iff.mp hi).1
    rw [h.2.2.1] at hi'
    show (if j < 10 then j else j + 131) ≠ i
    rw [if_neg (by omega)]; omega
theorem mEnds.any {sc sc' : List Int32} {d y : Nat} {q : mS} {x : Option Value × mH × Nat × Nat} (h : mEnds sc d y q x) (e : ∀ n, mrun sc n d y q = some x → mrun sc' n d y q = some x) : mEnds sc' d y q x := by
  obtain ⟨n, hn⟩ := h
  exact ⟨n, e n hn⟩
/-- the law comes to its end with 1 -/
def mFin (sc : List Int32) (d NC NS : Nat) (q : mS) : Prop := ∃ hs', mEnds sc d 184 q (some (.int 1), hs', NC, NS)
theorem mFin.step {sc : List Int32} {d NC NS : Nat} {q q' : mS} (h1 : mstep sc 184 q = some (.inl q')) (h2 : mmon q q' = true) (h : mFin sc d NC NS q') : mFin sc d NC NS q := by
  obtain ⟨w, h⟩ := h; exact ⟨w, mEnds.step h1 h2 h⟩
theorem mFin.steps {sc : List Int32} {d NC NS : Nat} (k : Nat) {q q' : mS} (h1 : msteps sc k 184 q = some q') (h : mFin sc d NC NS q') : mFin sc d NC NS q := by
  obtain ⟨w, h⟩ := h; exact ⟨w, mEnds.steps k h1 h⟩
theorem mFin.call {sc : List Int32} {d NC NS y' : Nat} {as : List Value} {q q' : mS} {v : Option Value} {hs' : mH} {c' s' : Nat} (h1 : mstep sc 184 q = some (.inr (.inr (y', as, q')))) (h2 : (mmon q q' && Nat.ble (margs as).length (mmaxL y')) = true)
    (h3 : mEnds sc d y' (mentry y' as q'.2.2.2.1) (v, hs', c', s')) (h : mFin sc (d + 1) NC NS (q'.1, q'.2.1, v.toList ++ q'.2.2.1, hs', q'.2.2.2.2.1 + c', q'.2.2.2.2.2 + s')) : mFin sc (d + 1) NC NS q := by
  obtain ⟨w, h⟩ := h; exact ⟨w, mEnds.call h1 h2 h3 h⟩
section LAW
variable {sc : List Int32} {d : Nat} {hC hM HS : mH} {nc ns : Nat} {NC NS : Nat} {st : List Value}
theorem step_fetch {y : Nat} {q : mS} {i : mI} {o : mO} (hf : mfetch y q.1 = some i) (h : mexec sc y i.2.1 i.2.2.2.1 i.2.2.2.2.1 i.2.2.2.2.2 q.1 q.2.1 q.2.2.1 q.2.2.2.1 q.2.2.2.2.1 q.2.2.2.2.2 = some o) : mstep sc y q = some o := by rw [mstep_of hf]; exact h
theorem mmon_rf {pc pc' : Nat} {l l' : mL} {s s' : List Value} {h h' : mH} {nc ns : Nat} : mmon (pc, l, s, h, nc, ns) (pc', l', s', h', nc, ns) = true := by
  unfold mmon
  rw [Nat.ble_eq_true_of_le (Nat.le_refl _), Nat.ble_eq_true_of_le (Nat.le_refl _)]; rfl
/-- a number of the script -/
theorem law_num {pc i j : Nat} {ix : Int32} (hf : mfetch 184 pc = some (pc, .iaload, 1, 0, 0, 0)) (hj : midx ix sc.length = some j)
    (k : mFin sc d NC NS (pc + 1, lawL i, .int (sc.getD j 0) :: st, HS, nc, ns)) : mFin sc d NC NS (pc, lawL i, .int ix :: .ref 0 :: st, HS, nc, ns) :=
  mFin.step (step_fetch hf ((oI_eq hj).trans rfl)) mmon_rf k
theorem midx_of {n N : Nat} (h : n < N) (hN : N < 2 ^ 31) : midx (nI n) N = some n := by
  have h1 : ¬ nI n < 0 := nI_pos (by omega)
  unfold midx
  rw [if_neg h1, nI_clamp (by omega), blt_of h]; rfl
theorem law_arg {pc i k : Nat} (h : i + k < sc.length) (hL : sc.length < 2 ^ 31) (hf0 : mfetch 184 pc = some (pc, .aload_n 0, 1, 0, 0, 0)) (hf1 : mfetch 184 (pc + 1) = some (pc + 1, .iload_n 3, 1, 0, 0, 0)) (hf2 : mfetch 184 (pc + 1 + 1) = some (pc + 1 + 1, .iconst (k : Int), 1, 0, 0, 0)) (hf3 : mfetch 184 (pc + 1 + 1 + 1) = some (pc + 1 + 1 + 1, .iadd, 1, 0, 0, 0)) (hf4 : mfetch 184 (pc + 1 + 1 + 1 + 1) = some (pc + 1 + 1 + 1 + 1, .iaload, 1, 0, 0, 0))
    (kk : mFin sc d NC NS (pc + 5, lawL i, .int (sc.getD (i + k) 0) :: st, HS, nc, ns)) : mFin sc d NC NS (pc, lawL i, st, HS, nc, ns) := by
  refine mFin.step (q' := (pc + 1, lawL i, .ref 0 :: st, HS, nc, ns)) (step_fetch hf0 rfl) mmon_rf ?_
  refine mFin.step (q' := (pc + 1 + 1, lawL i, .int (nI i) :: .ref 0 :: st, HS, nc, ns)) (step_fetch hf1 rfl) mmon_rf ?_
  refine mFin.step (q' := (pc + 1 + 1 + 1, lawL i, .int (Int32.ofInt k) :: .int (nI i) :: .ref 0 :: st, HS, nc, ns)) (step_fetch hf2 rfl) mmon_rf ?_
  refine mFin.step (q' := (pc + 1 + 1 + 1 + 1, lawL i, .int (nI i + Int32.ofInt k) :: .ref 0 :: st, HS, nc, ns)) (step_fetch hf3 rfl) mmon_rf ?_
  have e : nI i + Int32.ofInt k = nI (i + k) := by rw [← nI_add]; rfl
  rw [e]
  exact law_num hf4 (midx_of h hL) kk
theorem law_call {pc idx a r i : Nat} {as : List Value} {vs : List Value} {v : Value} {HS' : mH} (hf : mfetch 184 pc = some (pc, .invokevirtual idx, 3, a, 0, 0)) (hn : as.length = marg a) (hr : HS[r]? = some (.inr (mown a, vs))) (h6 : Nat.blt (mown a) 6 = true) (hc : Nat.ble (mcat st) 8 = true) (hm : (margs (.ref r :: as)).length ≤ mmaxL a)
    (h : mEnds sc d a (mentry a (.ref r :: as) HS) (some v, HS', 0, 0)) (k : mFin sc (d + 1) NC NS (pc + 3, lawL i, v :: st, HS', nc, ns)) : mFin sc (d + 1) NC NS (pc, lawL i, as.reverse ++ .ref r :: st, HS, nc, ns) := by
  have hp : mpop (marg a) (as.reverse ++ .ref r :: st) = some (as, .ref r :: st) := by
    unfold mpop
    rw [← hn, Nat.ble_eq_true_of_le (by rw [List.length_append, List.length_reverse]; omega), cond_true]
    have e : as.length = as.reverse.length := List.length_reverse.symm
    rw [e, List.take_left, List.drop_left, List.reverse_reverse]
  refine mFin.call (q' := (pc + 3, lawL i, st, HS, nc, ns)) (step_fetch hf ((oP_eq hp).trans ((hO_eq hr).trans ((oB_eq (Nat.beq_refl _)).trans ((oB_eq h6).trans ((oB_eq hc).trans rfl)))))) ?_ h k
  rw [mmon_rf, Nat.ble_eq_true_of_le hm]; rfl
/-- a call of the class -/
theorem law_C {pc idx a i : Nat} {as vs : List Value} {v : Value} {hC' : mH} (hR : LR hC hM HS) (hf : mfetch 184 pc = some (pc, .invokevirtual idx, 3, a, 0, 0)) (ha : a < 184) (hn : as.length = marg a) (hi : mInts as) (hv : ∀ σ, cV σ v = v) (ho : mown a = 4) (hr : hC[10]? = some (.inr (4, vs))) (hc : Nat.ble (mcat st) 8 = true) (hm : (margs (.ref 10 :: as)).length ≤ mmaxL a)
    (h : mEnds sc d a (mentry a (.ref 10 :: as) hC) (some v, hC', 0, 0)) (k : ∀ HS', LR hC' hM HS' → mFin sc (d + 1) NC NS (pc + 3, lawL i, v :: st, HS', nc, ns)) : mFin sc (d + 1) NC NS (pc, lawL i, as.reverse ++ .ref 10 :: st, HS, nc, ns) := by
  obtain ⟨n, hn'⟩ := h
  obtain ⟨HS', g1, g2, g3, g4⟩ := f_run (σ := sC) n d a (mentry a (.ref 10 :: as) hC) HS (some v) hC' ha hn' hR.1
  have g1' : mrun sc n d a (mentry a (.ref 10 :: as) HS) = some (some v, HS', 0, 0) := by
    have e := rL_entry sC a (.ref 10 :: as) hC HS
    rw [List.map_cons, hi sC] at e
    have e2 : mentry a (.ref 10 :: as) HS = mentry a (cV sC (.ref 10) :: as) HS := rfl
    rw [e2, e]
    have g := g1
    rw [Option.map_some, hv sC] at g
    exact g
  refine law_call hf hn (vs := vs) ?_ (by rw [ho]; rfl) hc hm ⟨n, g1'⟩ (k HS' (hR.stepC g2 g3 g4))
  have := hR.1.1 10 _ hr
  rw [ho]
  have e : rE sC (.inr (4, vs)) = .inr (4, vs) := by show Sum.inr (4, vs.map (cV sC)) = _; rw [map_sC]
  rw [e] at this
  exact this
/-- a call of the reference -/
theorem law_M {pc idx a i : Nat} {as vs : List Value} {v : Value} {hM' : mH} (hR : LR hC hM HS) (hf : mfetch 184 pc = some (pc, .invokevirtual idx, 3, a, 0, 0)) (ha : a < 184) (hn : as.length = marg a) (hi : mInts as) (hv : ∀ σ, cV σ v = v) (ho : mown a = 5) (hr : hM[10]? = some (.inr (5, vs))) (hc : Nat.ble (mcat st) 8 = true) (hm : (margs (.ref 141 :: as)).length ≤ mmaxL a)
    (h : mEnds sc d a (mentry a (.ref 10 :: as) hM) (some v, hM', 0, 0)) (k : ∀ HS', LR hC hM' HS' → mFin sc (d + 1) NC NS (pc + 3, lawL i, v :: st, HS', nc, ns)) : mFin sc (d + 1) NC NS (pc, lawL i, as.reverse ++ .ref 141 :: st, HS, nc, ns) := by
  obtain ⟨n, hn'⟩ := h
  obtain ⟨HS', g1, g2, g3, g4⟩ := f_run (σ := sM) n d a (mentry a (.ref 10 :: as) hM) HS (some v) hM' ha hn' hR.2.1
  have g1' : mrun sc n d a (mentry a (.ref 141 :: as) HS) = some (some v, HS', 0, 0) := by
    have e := rL_entry sM a (.ref 10 :: as) hM HS
    rw [List.map_cons, hi sM] at e
    have e2 : mentry a (.ref 141 :: as) HS = mentry a (cV sM (.ref 10) :: as) HS := rfl
    rw [e2, e]
    have g := g1
    rw [Option.map_some, hv sM] at g
    exact g
  exact law_call hf hn (vs := vs.map (cV sM)) (by rw [ho]; exact hR.2.1.1 10 _ hr) (by rw [ho]; rfl) hc hm ⟨n, g1'⟩ (k HS' (hR.stepM g2 g3 g4))
theorem lg_self (u : Int64) : lg_cmp u u = 0 := by
  unfold lg_cmp
  rw [if_neg (Int64.lt_irrefl), if_pos rfl]
theorem law_eq {pc i : Nat} {off : Int} {u : Int32} (hf : mfetch 184 pc = some (pc, .if_icmp .eq off, 3, 0, 0, 0)) (ht : (pc : Int) + off = ((1441 : Nat) : Int)) (k : mFin sc d NC NS (1441, lawL i, [], HS, nc, ns)) : mFin sc d NC NS (pc, lawL i, [.int u, .int u], HS, nc, ns) := by
  refine mFin.step (step_fetch hf ?_) mmon_rf k
  show (bif mtk .eq u u then mjp pc off (lawL i) [] HS nc ns else mgo (pc + 3) (lawL i) [] HS nc ns) = _
  have e : mtk .eq u u = true := decide_eq_true rfl
  rw [e, cond_true]
  exact mjp_eq ht
theorem law_leq {pc i : Nat} {off : Int} {u : Int64} (hf0 : mfetch 184 pc = some (pc, .lcmp, 1, 0, 0, 0)) (hf : mfetch 184 (pc + 1) = some (pc + 1, .ifCond .eq off, 3, 0, 0, 0)) (ht : ((pc + 1 : Nat) : Int) + off = ((1441 : Nat) : Int)) (k : mFin sc d NC NS (1441, lawL i, [], HS, nc, ns)) : mFin sc d NC NS (pc, lawL i, [.long u, .long u], HS, nc, ns) := by
  refine mFin.step (q' := (pc + 1, lawL i, [.int (lg_cmp u u)], HS, nc, ns)) (step_fetch hf0 rfl) mmon_rf ?_
  refine mFin.step (step_fetch hf ?_) mmon_rf k
  show (bif mtk .eq (lg_cmp u u) 0 then mjp (pc + 1) off (lawL i) [] HS nc ns else mgo (pc + 1 + 3) (lawL i) [] HS nc ns) = _
  have e : mtk .eq (lg_cmp u u) 0 = true := decide_eq_true (lg_self u)
  rw [e, cond_true]
  exact mjp_eq ht
theorem law_pop {pc i : Nat} {v : Value} (hf : mfetch 184 pc = some (pc, .pop, 1, 0, 0, 0)) (hv : v.category = 1) (k : mFin sc d NC NS (pc + 1, lawL i, st, HS, nc, ns)) : mFin sc d NC NS (pc, lawL i, v :: st, HS, nc, ns) :=
  mFin.step (step_fetch hf ((oB_eq (by rw [hv]; rfl)).trans rfl)) mmon_rf k
theorem law_pop2 {pc i : Nat} {v : Value} (hf : mfetch 184 pc = some (pc, .pop2, 1, 0, 0, 0)) (hv : v.category = 2) (k : mFin sc d NC NS (pc + 1, lawL i, st, HS, nc, ns)) : mFin sc d NC NS (pc, lawL i, v :: st, HS, nc, ns) :=
  mFin.step (step_fetch hf ((oB_eq (by rw [hv]; rfl)).trans rfl)) mmon_rf k
theorem law_go {pc i : Nat} {off : Int} (hf : mfetch 184 pc = some (pc, .goto off, 3, 0, 0, 0)) (ht : (pc : Int) + off = ((1441 : Nat) : Int)) (k : mFin sc d NC NS (1441, lawL i, [], HS, nc, ns)) : mFin sc d NC NS (pc, lawL i, [], HS, nc, ns) :=
  mFin.step (step_fetch hf (mjp_eq ht)) mmon_rf k
end LAW
end Q91
section Q92
/-! the 39 calls of the law -/
theorem lg_skip {A B : List mI} {lo pc : Nat} (hA : A.all (fun e => Nat.blt e.1 lo) = true) (h : lo ≤ pc) : (A ++ B).find? (fun e => Nat.beq e.1 pc) = B.find? (fun e => Nat.beq e.1 pc) := by
  have h0 : A.find? (fun e => Nat.beq e.1 pc) = none := by
    rw [List.find?_eq_none]
    intro e he hb
    have h1 : e.1 < lo := Nat.le_of_ble_eq_true (List.all_eq_true.mp hA e he)
    have h2 : e.1 = pc := Nat.eq_of_beq_eq_true hb
    omega
  rw [List.find?_append, h0]; rfl
def lgR_12 : List mI := mcL_12
def lgR_11 : List mI := mcL_11 ++ lgR_12
def lgR_10 : List mI := mcL_10 ++ lgR_11
def lgR_9 : List mI := mcL_9 ++ lgR_10
def lgR_8 : List mI := mcL_8 ++ lgR_9
def lgR_7 : List mI := mcL_7 ++ lgR_8
def lgR_6 : List mI := mcL_6 ++ lgR_7
def lgR_5 : List mI := mcL_5 ++ lgR_6
def lgR_4 : List mI := mcL_4 ++ lgR_5
def lgR_3 : List mI := mcL_3 ++ lgR_4
def lgR_2 : List mI := mcL_2 ++ lgR_3
def lgR_1 : List mI := mcL_1 ++ lgR_2
def lgR_0 : List mI := mcL_0 ++ lgR_1
theorem lgs_0 (pc : Nat) : mfetch 184 pc = lgR_0.find? (fun e => Nat.beq e.1 pc) := rfl
theorem lgs_1 (pc : Nat) (h : 288 ≤ pc) : mfetch 184 pc = lgR_1.find? (fun e => Nat.beq e.1 pc) := (lgs_0 pc).trans (lg_skip (A := mcL_0) (B := lgR_1) (by decide +kernel) h)
theorem lgs_2 (pc : Nat) (h : 390 ≤ pc) : mfetch 184 pc = lgR_2.find? (fun e => Nat.beq e.1 pc) := (lgs_1 pc (Nat.le_trans (Nat.le_of_ble_eq_true rfl) h)).trans (lg_skip (A := mcL_1) (B := lgR_2) (by decide +kernel) h)
theorem lgs_3 (pc : Nat) (h : 488 ≤ pc) : mfetch 184 pc = lgR_3.find? (fun e => Nat.beq e.1 pc) := (lgs_2 pc (Nat.le_trans (Nat.le_of_ble_eq_true rfl) h)).trans (lg_skip (A := mcL_2) (B := lgR_3) (by decide +kernel) h)
theorem lgs_4 (pc : Nat) (h : 586 ≤ pc) : mfetch 184 pc = lgR_4.find? (fun e => Nat.beq e.1 pc) := (lgs_3 pc (Nat.le_trans (Nat.le_of_ble_eq_true rfl) h)).trans (lg_skip (A := mcL_3) (B := lgR_4) (by decide +kernel) h)
theorem lgs_5 (pc : Nat) (h : 682 ≤ pc) : mfetch 184 pc = lgR_5.find? (fun e => Nat.beq e.1 pc) := (lgs_4 pc (Nat.le_trans (Nat.le_of_ble_eq_true rfl) h)).trans (lg_skip (A := mcL_4) (B := lgR_5) (by decide +kernel) h)
theorem lgs_6 (pc : Nat) (h : 782 ≤ pc) : mfetch 184 pc = lgR_6.find? (fun e => Nat.beq e.1 pc) := (lgs_5 pc (Nat.le_trans (Nat.le_of_ble_eq_true rfl) h)).trans (lg_skip (A := mcL_5) (B := lgR_6) (by decide +kernel) h)
theorem lgs_7 (pc : Nat) (h : 876 ≤ pc) : mfetch 184 pc = lgR_7.find? (fun e => Nat.beq e.1 pc) := (lgs_6 pc (Nat.le_trans (Nat.le_of_ble_eq_true rfl) h)).trans (lg_skip (A := mcL_6) (B := lgR_7) (by decide +kernel) h)
theorem lgs_8 (pc : Nat) (h : 968 ≤ pc) : mfetch 184 pc = lgR_8.find? (fun e => Nat.beq e.1 pc) := (lgs_7 pc (Nat.le_trans (Nat.le_of_ble_eq_true rfl) h)).trans (lg_skip (A := mcL_7) (B := lgR_8) (by decide +kernel) h)
theorem lgs_9 (pc : Nat) (h : 1060 ≤ pc) : mfetch 184 pc = lgR_9.find? (fun e => Nat.beq e.1 pc) := (lgs_8 pc (Nat.le_trans (Nat.le_of_ble_eq_true rfl) h)).trans (lg_skip (A := mcL_8) (B := lgR_9) (by decide +kernel) h)
theorem lgs_10 (pc : Nat) (h : 1164 ≤ pc) : mfetch 184 pc = lgR_10.find? (fun e => Nat.beq e.1 pc) := (lgs_9 pc (Nat.le_trans (Nat.le_of_ble_eq_true rfl) h)).trans (lg_skip (A := mcL_9) (B := lgR_10) (by decide +kernel) h)
theorem lgs_11 (pc : Nat) (h : 1266 ≤ pc) : mfetch 184 pc = lgR_11.find? (fun e => Nat.beq e.1 pc) := (lgs_10 pc (Nat.le_trans (Nat.le_of_ble_eq_true rfl) h)).trans (lg_skip (A := mcL_10) (B := lgR_11) (by decide +kernel) h)
theorem lgs_12 (pc : Nat) (h : 1358 ≤ pc) : mfetch 184 pc = lgR_12.find? (fun e => Nat.beq e.1 pc) := (lgs_11 pc (Nat.le_trans (Nat.le_of_ble_eq_true rfl) h)).trans (lg_skip (A := mcL_11) (B := lgR_12) (by decide +kernel) h)
theorem lg_204 : mfetch 184 204 = some (204, .aload_n 1, 1, 0, 0, 0) := (lgs_0 204).trans (by decide +kernel)
theorem lg_205 : mfetch 184 205 = some (205, .aload_n 0, 1, 0, 0, 0) := (lgs_0 205).trans (by decide +kernel)
theorem lg_206 : mfetch 184 206 = some (206, .iload_n 3, 1, 0, 0, 0) := (lgs_0 206).trans (by decide +kernel)
theorem lg_207 : mfetch 184 207 = some (207, .iconst 1, 1, 0, 0, 0) := (lgs_0 207).trans (by decide +kernel)
theorem lg_208 : mfetch 184 208 = some (208, .iadd, 1, 0, 0, 0) := (lgs_0 208).trans (by decide +kernel)
theorem lg_209 : mfetch 184 209 = some (209, .iaload, 1, 0, 0, 0) := (lgs_0 209).trans (by decide +kernel)
theorem lg_210 : mfetch 184 210 = some (210, .invokevirtual 13, 3, 55, 0, 0) := (lgs_0 210).trans (by decide +kernel)
theorem lg_213 : mfetch 184 213 = some (213, .pop, 1, 0, 0, 0) := (lgs_0 213).trans (by decide +kernel)
theorem lg_214 : mfetch 184 214 = some (214, .aload_n 2, 1, 0, 0, 0) := (lgs_0 214).trans (by decide +kernel)
theorem lg_215 : mfetch 184 215 = some (215, .aload_n 0, 1, 0, 0, 0) := (lgs_0 215).trans (by decide +kernel)
theorem lg_216 : mfetch 184 216 = some (216, .iload_n 3, 1, 0, 0, 0) := (lgs_0 216).trans (by decide +kernel)
theorem lg_217 : mfetch 184 217 = some (217, .iconst 1, 1, 0, 0, 0) := (lgs_0 217).trans (by decide +kernel)
theorem lg_218 : mfetch 184 218 = some (218, .iadd, 1, 0, 0, 0) := (lgs_0 218).trans (by decide +kernel)
theorem lg_219 : mfetch 184 219 = some (219, .iaload, 1, 0, 0, 0) := (lgs_0 219).trans (by decide +kernel)
theorem lg_220 : mfetch 184 220 = some (220, .invokevirtual 17, 3, 112, 0, 0) := (lgs_0 220).trans (by decide +kernel)
theorem lg_223 : mfetch 184 223 = some (223, .pop, 1, 0, 0, 0) := (lgs_0 223).trans (by decide +kernel)
theorem lg_224 : mfetch 184 224 = some (224, .goto 1217, 3, 0, 0, 0) := (lgs_0 224).trans (by decide +kernel)
theorem lg_227 : mfetch 184 227 = some (227, .aload_n 1, 1, 0, 0, 0) := (lgs_0 227).trans (by decide +kernel)
theorem lg_228 : mfetch 184 228 = some (228, .aload_n 0, 1, 0, 0, 0) := (lgs_0 228).trans (by decide +kernel)
theorem lg_229 : mfetch 184 229 = some (229, .iload_n 3, 1, 0, 0, 0) := (lgs_0 229).trans (by decide +kernel)
theorem lg_230 : mfetch 184 230 = some (230, .iconst 1, 1, 0, 0, 0) := (lgs_0 230).trans (by decide +kernel)
theorem lg_231 : mfetch 184 231 = some (231, .iadd, 1, 0, 0, 0) := (lgs_0 231).trans (by decide +kernel)
theorem lg_232 : mfetch 184 232 = some (232, .iaload, 1, 0, 0, 0) := (lgs_0 232).trans (by decide +kernel)
theorem lg_233 : mfetch 184 233 = some (233, .invokevirtual 18, 3, 56, 0, 0) := (lgs_0 233).trans (by decide +kernel)
theorem lg_236 : mfetch 184 236 = some (236, .pop, 1, 0, 0, 0) := (lgs_0 236).trans (by decide +kernel)
theorem lg_237 : mfetch 184 237 = some (237, .aload_n 2, 1, 0, 0, 0) := (lgs_0 237).trans (by decide +kernel)
theorem lg_238 : mfetch 184 238 = some (238, .aload_n 0, 1, 0, 0, 0) := (lgs_0 238).trans (by decide +kernel)
theorem lg_239 : mfetch 184 239 = some (239, .iload_n 3, 1, 0, 0, 0) := (lgs_0 239).trans (by decide +kernel)
theorem lg_240 : mfetch 184 240 = some (240, .iconst 1, 1, 0, 0, 0) := (lgs_0 240).trans (by decide +kernel)
theorem lg_241 : mfetch 184 241 = some (241, .iadd, 1, 0, 0, 0) := (lgs_0 241).trans (by decide +kernel)
theorem lg_242 : mfetch 184 242 = some (242, .iaload, 1, 0, 0, 0) := (lgs_0 242).trans (by decide +kernel)
theorem lg_243 : mfetch 184 243 = some (243, .invokevirtual 21, 3, 113, 0, 0) := (lgs_0 243).trans (by decide +kernel)
theorem lg_246 : mfetch 184 246 = some (246, .pop, 1, 0, 0, 0) := (lgs_0 246).trans (by decide +kernel)
theorem lg_247 : mfetch 184 247 = some (247, .goto 1194, 3, 0, 0, 0) := (lgs_0 247).trans (by decide +kernel)
theorem lg_250 : mfetch 184 250 = some (250, .aload_n 1, 1, 0, 0, 0) := (lgs_0 250).trans (by decide +kernel)
theorem lg_251 : mfetch 184 251 = some (251, .invokevirtual 22, 3, 57, 0, 0) := (lgs_0 251).trans (by decide +kernel)
theorem lg_254 : mfetch 184 254 = some (254, .pop, 1, 0, 0, 0) := (lgs_0 254).trans (by decide +kernel)
theorem lg_255 : mfetch 184 255 = some (255, .aload_n 2, 1, 0, 0, 0) := (lgs_0 255).trans (by decide +kernel)
theorem lg_256 : mfetch 184 256 = some (256, .invokevirtual 26, 3, 124, 0, 0) := (lgs_0 256).trans (by decide +kernel)
theorem lg_259 : mfetch 184 259 = some (259, .pop, 1, 0, 0, 0) := (lgs_0 259).trans (by decide +kernel)
theorem lg_260 : mfetch 184 260 = some (260, .goto 1181, 3, 0, 0, 0) := (lgs_0 260).trans (by decide +kernel)
theorem lg_263 : mfetch 184 263 = some (263, .aload_n 1, 1, 0, 0, 0) := (lgs_0 263).trans (by decide +kernel)
theorem lg_264 : mfetch 184 264 = some (264, .invokevirtual 27, 3, 58, 0, 0) := (lgs_0 264).trans (by decide +kernel)
theorem lg_267 : mfetch 184 267 = some (267, .pop, 1, 0, 0, 0) := (lgs_0 267).trans (by decide +kernel)
theorem lg_268 : mfetch 184 268 = some (268, .aload_n 2, 1, 0, 0, 0) := (lgs_0 268).trans (by decide +kernel)
theorem lg_269 : mfetch 184 269 = some (269, .invokevirtual 30, 3, 125, 0, 0) := (lgs_0 269).trans (by decide +kernel)
theorem lg_272 : mfetch 184 272 = some (272, .pop, 1, 0, 0, 0) := (lgs_0 272).trans (by decide +kernel)
theorem lg_273 : mfetch 184 273 = some (273, .goto 1168, 3, 0, 0, 0) := (lgs_0 273).trans (by decide +kernel)
theorem lg_276 : mfetch 184 276 = some (276, .aload_n 1, 1, 0, 0, 0) := (lgs_0 276).trans (by decide +kernel)
theorem lg_277 : mfetch 184 277 = some (277, .aload_n 0, 1, 0, 0, 0) := (lgs_0 277).trans (by decide +kernel)
theorem lg_278 : mfetch 184 278 = some (278, .iload_n 3, 1, 0, 0, 0) := (lgs_0 278).trans (by decide +kernel)
theorem lg_279 : mfetch 184 279 = some (279, .iconst 1, 1, 0, 0, 0) := (lgs_0 279).trans (by decide +kernel)
theorem lg_280 : mfetch 184 280 = some (280, .iadd, 1, 0, 0, 0) := (lgs_0 280).trans (by decide +kernel)
theorem lg_281 : mfetch 184 281 = some (281, .iaload, 1, 0, 0, 0) := (lgs_0 281).trans (by decide +kernel)
theorem lg_282 : mfetch 184 282 = some (282, .invokevirtual 31, 3, 59, 0, 0) := (lgs_0 282).trans (by decide +kernel)
theorem lg_285 : mfetch 184 285 = some (285, .pop, 1, 0, 0, 0) := (lgs_0 285).trans (by decide +kernel)
theorem lg_286 : mfetch 184 286 = some (286, .aload_n 2, 1, 0, 0, 0) := (lgs_0 286).trans (by decide +kernel)
theorem lg_287 : mfetch 184 287 = some (287, .aload_n 0, 1, 0, 0, 0) := (lgs_0 287).trans (by decide +kernel)
theorem lg_288 : mfetch 184 288 = some (288, .iload_n 3, 1, 0, 0, 0) := (lgs_1 288 (Nat.le_of_ble_eq_true rfl)).trans (by decide +kernel)
theorem lg_289 : mfetch 184 289 = some (289, .iconst 1, 1, 0, 0, 0) := (lgs_1 289 (Nat.le_of_ble_eq_true rfl)).trans (by decide +kernel)
theorem lg_290 : mfetch 184 290 = some (290, .iadd, 1, 0, 0, 0) := (lgs_1 290 (Nat.le_of_ble_eq_true rfl)).trans (by decide +kernel)
theorem lg_291 : mfetch 184 291 = some (291, .iaload, 1, 0, 0, 0) := (lgs_1 291 (Nat.le_of_ble_eq_true rfl)).trans (by decide +kernel)
theorem lg_292 : mfetch 184 292 = some (292, .invokevirtual 34, 3, 138, 0, 0) := (lgs_1 292 (Nat.le_of_ble_eq_true rfl)).trans (by decide +kernel)
theorem lg_295 : mfetch 184 295 = some (295, .pop, 1, 0, 0, 0) := (lgs_1 295 (Nat.le_of_ble_eq_true rfl)).trans (by decide +kernel)
theorem lg_296 : mfetch 184 296 = some (296, .goto 1145, 3, 0, 0, 0) := (lgs_1 296 (Nat.le_of_ble_eq_true rfl)).trans (by decide +kernel)
theorem lg_299 : mfetch 184 299 = some (299, .aload_n 1, 1, 0, 0, 0) := (lgs_1 299 (Nat.le_of_ble_eq_true rfl)).trans (by decide +kernel)
theorem lg_300 : mfetch 184 300 = some (300, .aload_n 0, 1, 0, 0, 0) := (lgs_1 300 (Nat.le_of_ble_eq_true rfl)).trans (by decide +kernel)
theorem lg_301 : mfetch 184 301 = some (301, .iload_n 3, 1, 0, 0, 0) := (lgs_1 301 (Nat.le_of_ble_eq_true rfl)).trans (by decide +kernel)
theorem lg_302 : mfetch 184 302 = some (302, .iconst 1, 1, 0, 0, 0) := (lgs_1 302 (Nat.le_of_ble_eq_true rfl)).trans (by decide +kernel)
theorem lg_303 : mfetch 184 303 = some (303, .iadd, 1, 0, 0, 0) := (lgs_1 303 (Nat.le_of_ble_eq_true rfl)).trans (by decide +kernel)
theorem lg_304 : mfetch 184 304 = some (304, .iaload, 1, 0, 0, 0) := (lgs_1 304 (Nat.le_of_ble_eq_true rfl)).trans (by decide +kernel)
theorem lg_305 : mfetch 184 305 = some (305, .aload_n 0, 1, 0, 0, 0) := (lgs_1 305 (Nat.le_of_ble_eq_true rfl)).trans (by decide +kernel)
theorem lg_306 : mfetch 184 306 = some (306, .iload_n 3, 1, 0, 0, 0) := (lgs_1 306 (Nat.le_of_ble_eq_true rfl)).trans (by decide +kernel)
theorem lg_307 : mfetch 184 307 = some (307, .iconst 2, 1, 0, 0, 0) := (lgs_1 307 (Nat.le_of_ble_eq_true rfl)).trans (by decide +kernel)
theorem lg_308 : mfetch 184 308 = some (308, .iadd, 1, 0, 0, 0) := (lgs_1 308 (Nat.le_of_ble_eq_true rfl)).trans (by decide +kernel)
theorem lg_309 : mfetch 184 309 = some (309, .iaload, 1, 0, 0, 0) := (lgs_1 309 (Nat.le_of_ble_eq_true rfl)).trans (by decide +kernel)
theorem lg_310 : mfetch 184 310 = some (310, .invokevirtual 35, 3, 60, 0, 0) := (lgs_1 310 (Nat.le_of_ble_eq_true rfl)).trans (by decide +kernel)
theorem lg_313 : mfetch 184 313 = some (313, .pop, 1, 0, 0, 0) := (lgs_1 313 (Nat.le_of_ble_eq_true rfl)).trans (by decide +kernel)
theorem lg_314 : mfetch 184 314 = some (314, .aload_n 2, 1, 0, 0, 0) := (lgs_1 314 (Nat.le_of_ble_eq_true rfl)).trans (by decide +kernel)
theorem lg_315 : mfetch 184 315 = some (315, .aload_n 0, 1, 0, 0, 0) := (lgs_1 315 (Nat.le_of_ble_eq_true rfl)).trans (by decide +kernel)
theorem lg_316 : mfetch 184 316 = some (316, .iload_n 3, 1, 0, 0, 0) := (lgs_1 316 (Nat.le_of_ble_eq_true rfl)).trans (by decide +kernel)
theorem lg_317 : mfetch 184 317 = some (317, .iconst 1, 1, 0, 0, 0) := (lgs_1 317 (Nat.le_of_ble_eq_true rfl)).trans (by decide +kernel)
theorem lg_318 : mfetch 184 318 = some (318, .iadd, 1, 0, 0, 0) := (lgs_1 318 (Nat.le_of_ble_eq_true rfl)).trans (by decide +kernel)
theorem lg_319 : mfetch 184 319 = some (319, .iaload, 1, 0, 0, 0) := (lgs_1 319 (Nat.le_of_ble_eq_true rfl)).trans (by decide +kernel)
theorem lg_320 : mfetch 184 320 = some (320, .aload_n 0, 1, 0, 0, 0) := (lgs_1 320 (Nat.le_of_ble_eq_true rfl)).trans (by decide +kernel)
theorem lg_321 : mfetch 184 321 = some (321, .iload_n 3, 1, 0, 0, 0) := (lgs_1 321 (Nat.le_of_ble_eq_true rfl)).trans (by decide +kernel)
theorem lg_322 : mfetch 184 322 = some (322, .iconst 2, 1, 0, 0, 0) := (lgs_1 322 (Nat.le_of_ble_eq_true rfl)).trans (by decide +kernel)
theorem lg_323 : mfetch 184 323 = some (323, .iadd, 1, 0, 0, 0) := (lgs_1 323 (Nat.le_of_ble_eq_true rfl)).trans (by decide +kernel)
theorem lg_324 : mfetch 184 324 = some (324, .iaload, 1, 0, 0, 0) := (lgs_1 324 (Nat.le_of_ble_eq_true rfl)).trans (by decide +kernel)
theorem lg_325 : mfetch 184 325 = some (325, .invokevirtual 39, 3, 139, 0, 0) := (lgs_1 325 (Nat.le_of_ble_eq_true rfl)).trans (by decide +kernel)
theorem lg_328 : mfetch 184 328 = some (328, .pop, 1, 0, 0, 0) := (lgs_1 328 (Nat.le_of_ble_eq_true rfl)).trans (by decide +kernel)
theorem lg_329 : mfetch 184 329 = some (329, .goto 1112, 3, 0, 0, 0) := (lgs_1 329 (Nat.le_of_ble_eq_true rfl)).trans (by decide +kernel)
theorem lg_332 : mfetch 184 332 = some (332, .aload_n 1, 1, 0, 0, 0) := (lgs_1 332 (Nat.le_of_ble_eq_true rfl)).trans (by decide +kernel)
theorem lg_333 : mfetch 184 333 = some (333, .aload_n 0, 1, 0, 0, 0) := (lgs_1 333 (Nat.le_of_ble_eq_true rfl)).trans (by decide +kernel)
theorem lg_334 : mfetch 184 334 = some (334, .iload_n 3, 1, 0, 0, 0) := (lgs_1 334 (Nat.le_of_ble_eq_true rfl)).trans (by decide +kernel)
theorem lg_335 : mfetch 184 335 = some (335, .iconst 1, 1, 0, 0, 0) := (lgs_1 335 (Nat.le_of_ble_eq_true rfl)).trans (by decide +kernel)
theorem lg_336 : mfetch 184 336 = some (336, .iadd, 1, 0, 0, 0) := (lgs_1 336 (Nat.le_of_ble_eq_true rfl)).trans (by decide +kernel)
theorem lg_337 : mfetch 184 337 = some (337, .iaload, 1, 0, 0, 0) := (lgs_1 337 (Nat.le_of_ble_eq_true rfl)).trans (by decide +kernel)
theorem lg_338 : mfetch 184 338 = some (338, .invokevirtual 40, 3, 62, 0, 0) := (lgs_1 338 (Nat.le_of_ble_eq_true rfl)).trans (by decide +kernel)
theorem lg_341 : mfetch 184 341 = some (341, .pop, 1, 0, 0, 0) := (lgs_1 341 (Nat.le_of_ble_eq_true rfl)).trans (by decide +kernel)
theorem lg_342 : mfetch 184 342 = some (342, .aload_n 2, 1, 0, 0, 0) := (lgs_1 342 (Nat.le_of_ble_eq_true rfl)).trans (by decide +kernel)
theorem lg_343 : mfetch 184 343 = some (343, .aload_n 0, 1, 0, 0, 0) := (lgs_1 343 (Nat.le_of_ble_eq_true rfl)).trans (by decide +kernel)
theorem lg_344 : mfetch 184 344 = some (344, .iload_n 3, 1, 0, 0, 0) := (lgs_1 344 (Nat.le_of_ble_eq_true rfl)).trans (by decide +kernel)
theorem lg_345 : mfetch 184 345 = some (345, .iconst 1, 1, 0, 0, 0) := (lgs_1 345 (Nat.le_of_ble_eq_true rfl)).trans (by decide +kernel)
theorem lg_346 : mfetch 184 346 = some (346, .iadd, 1, 0, 0, 0) := (lgs_1 346 (Nat.le_of_ble_eq_true rfl)).trans (by decide +kernel)
theorem lg_347 : mfetch 184 347 = some (347, .iaload, 1, 0, 0, 0) := (lgs_1 347 (Nat.le_of_ble_eq_true rfl)).trans (by decide +kernel)
theorem lg_348 : mfetch 184 348 = some (348, .invokevirtual 43, 3, 140, 0, 0) := (lgs_1 348 (Nat.le_of_ble_eq_true rfl)).trans (by decide +kernel)
theorem lg_351 : mfetch 184 351 = some (351, .pop, 1, 0, 0, 0) := (lgs_1 351 (Nat.le_of_ble_eq_true rfl)).trans (by decide +kernel)
theorem lg_352 : mfetch 184 352 = some (352, .goto 1089, 3, 0, 0, 0) := (lgs_1 352 (Nat.le_of_ble_eq_true rfl)).trans (by decide +kernel)
theorem lg_355 : mfetch 184 355 = some (355, .aload_n 1, 1, 0, 0, 0) := (lgs_1 355 (Nat.le_of_ble_eq_true rfl)).trans (by decide +kernel)
theorem lg_356 : mfetch 184 356 = some (356, .aload_n 0, 1, 0, 0, 0) := (lgs_1 356 (Nat.le_of_ble_eq_true rfl)).trans (by decide +kernel)
theorem lg_357 : mfetch 184 357 = some (357, .iload_n 3, 1, 0, 0, 0) := (lgs_1 357 (Nat.le_of_ble_eq_true rfl)).trans (by decide +kernel)
theorem lg_358 : mfetch 184 358 = some (358, .iconst 1, 1, 0, 0, 0) := (lgs_1 358 (Nat.le_of_ble_eq_true rfl)).trans (by decide +kernel)
theorem lg_359 : mfetch 184 359 = some (359, .iadd, 1, 0, 0, 0) := (lgs_1 359 (Nat.le_of_ble_eq_true rfl)).trans (by decide +kernel)
theorem lg_360 : mfetch 184 360 = some (360, .iaload, 1, 0, 0, 0) := (lgs_1 360 (Nat.le_of_ble_eq_true rfl)).trans (by decide +kernel)
theorem lg_361 : mfetch 184 361 = some (361, .invokevirtual 44, 3, 63, 0, 0) := (lgs_1 361 (Nat.le_of_ble_eq_true rfl)).trans (by decide +kernel)
theorem lg_364 : mfetch 184 364 = some (364, .pop, 1, 0, 0, 0) := (lgs_1 364 (Nat.le_of_ble_eq_true rfl)).trans (by decide +kernel)
theorem lg_365 : mfetch 184 365 = some (365, .aload_n 2, 1, 0, 0, 0) := (lgs_1 365 (Nat.le_of_ble_eq_true rfl)).trans (by decide +kernel)
theorem lg_366 : mfetch 184 366 = some (366, .aload_n 0, 1, 0, 0, 0) := (lgs_1 366 (Nat.le_of_ble_eq_true rfl)).trans (by decide +kernel)
theorem lg_367 : mfetch 184 367 = some (367, .iload_n 3, 1, 0, 0, 0) := (lgs_1 367 (Nat.le_of_ble_eq_true rfl)).trans (by decide +kernel)
theorem lg_368 : mfetch 184 368 = some (368, .iconst 1, 1, 0, 0, 0) := (lgs_1 368 (Nat.le_of_ble_eq_true rfl)).trans (by decide +kernel)
theorem lg_369 : mfetch 184 369 = some (369, .iadd, 1, 0, 0, 0) := (lgs_1 369 (Nat.le_of_ble_eq_true rfl)).trans (by decide +kernel)
theorem lg_370 : mfetch 184 370 = some (370, .iaload, 1, 0, 0, 0) := (lgs_1 370 (Nat.le_of_ble_eq_true rfl)).trans (by decide +kernel)
theorem lg_371 : mfetch 184 371 = some (371, .invokevirtual 47, 3, 141, 0, 0) := (lgs_1 371 (Nat.le_of_ble_eq_true rfl)).trans (by decide +kernel)
theorem lg_374 : mfetch 184 374 = some (374, .pop, 1, 0, 0, 0) := (lgs_1 374 (Nat.le_of_ble_eq_true rfl)).trans (by decide +kernel)
theorem lg_375 : mfetch 184 375 = some (375, .goto 1066, 3, 0, 0, 0) := (lgs_1 375 (Nat.le_of_ble_eq_true rfl)).trans (by decide +kernel)
theorem lg_378 : mfetch 184 378 = some (378, .aload_n 1, 1, 0, 0, 0) := (lgs_1 378 (Nat.le_of_ble_eq_true rfl)).trans (by decide +kernel)
theorem lg_379 : mfetch 184 379 = some (379, .aload_n 0, 1, 0, 0, 0) := (lgs_1 379 (Nat.le_of_ble_eq_true rfl)).trans (by decide +kernel)
theorem lg_380 : mfetch 184 380 = some (380, .iload_n 3, 1, 0, 0, 0) := (lgs_1 380 (Nat.le_of_ble_eq_true rfl)).trans (by decide +kernel)
theorem lg_381 : mfetch 184 381 = some (381, .iconst 1, 1, 0, 0, 0) := (lgs_1 381 (Nat.le_of_ble_eq_true rfl)).trans (by decide +kernel)
theorem lg_382 : mfetch 184 382 = some (382, .iadd, 1, 0, 0, 0) := (lgs_1 382 (Nat.le_of_ble_eq_true rfl)).trans (by decide +kernel)
theorem lg_383 : mfetch 184 383 = some (383, .iaload, 1, 0, 0, 0) := (lgs_1 383 (Nat.le_of_ble_eq_true rfl)).trans (by decide +kernel)
theorem lg_384 : mfetch 184 384 = some (384, .aload_n 0, 1, 0, 0, 0) := (lgs_1 384 (Nat.le_of_ble_eq_true rfl)).trans (by decide +kernel)
theorem lg_385 : mfetch 184 385 = some (385, .iload_n 3, 1, 0, 0, 0) := (lgs_1 385 (Nat.le_of_ble_eq_true rfl)).trans (by decide +kernel)
theorem lg_386 : mfetch 184 386 = some (386, .iconst 2, 1, 0, 0, 0) := (lgs_1 386 (Nat.le_of_ble_eq_true rfl)).trans (by decide +kernel)
theorem lg_387 : mfetch 184 387 = some (387, .iadd, 1, 0, 0, 0) := (lgs_1 387 (Nat.le_of_ble_eq_true rfl)).trans (by decide +kernel)
theorem lg_388 : mfetch 184 388 = some (388, .iaload, 1, 0, 0, 0) := (lgs_1 388 (Nat.le_of_ble_eq_true rfl)).trans (by decide +kernel)
theorem lg_389 : mfetch 184 389 = some (389, .aload_n 0, 1, 0, 0, 0) := (lgs_1 389 (Nat.le_of_ble_eq_true rfl)).trans (by decide +kernel)
theorem lg_390 : mfetch 184 390 = some (390, .iload_n 3, 1, 0, 0, 0) := (lgs_2 390 (Nat.le_of_ble_eq_true rfl)).trans (by decide +kernel)
theorem lg_391 : mfetch 184 391 = some (391, .iconst 3, 1, 0, 0, 0) := (lgs_2 391 (Nat.le_of_ble_eq_true rfl)).trans (by decide +kernel)
theorem lg_392 : mfetch 184 392 = some (392, .iadd, 1, 0, 0, 0) := (lgs_2 392 (Nat.le_of_ble_eq_true rfl)).trans (by decide +kernel)
theorem lg_393 : mfetch 184 393 = some (393, .iaload, 1, 0, 0, 0) := (lgs_2 393 (Nat.le_of_ble_eq_true rfl)).trans (by decide +kernel)
theorem lg_394 : mfetch 184 394 = some (394, .invokevirtual 48, 3, 64, 0, 0) := (lgs_2 394 (Nat.le_of_ble_eq_true rfl)).trans (by decide +kernel)
theorem lg_397 : mfetch 184 397 = some (397, .pop, 1, 0, 0, 0) := (lgs_2 397 (Nat.le_of_ble_eq_true rfl)).trans (by decide +kernel)
theorem lg_398 : mfetch 184 398 = some (398, .aload_n 2, 1, 0, 0, 0) := (lgs_2 398 (Nat.le_of_ble_eq_true rfl)).trans (by decide +kernel)
theorem lg_399 : mfetch 184 399 = some (399, .aload_n 0, 1, 0, 0, 0) := (lgs_2 399 (Nat.le_of_ble_eq_true rfl)).trans (by decide +kernel)
theorem lg_400 : mfetch 184 400 = some (400, .iload_n 3, 1, 0, 0, 0) := (lgs_2 400 (Nat.le_of_ble_eq_true rfl)).trans (by decide +kernel)
theorem lg_401 : mfetch 184 401 = some (401, .iconst 1, 1, 0, 0, 0) := (lgs_2 401 (Nat.le_of_ble_eq_true rfl)).trans (by decide +kernel)
theorem lg_402 : mfetch 184 402 = some (402, .iadd, 1, 0, 0, 0) := (lgs_2 402 (Nat.le_of_ble_eq_true rfl)).trans (by decide +kernel)
theorem lg_403 : mfetch 184 403 = some (403, .iaload, 1, 0, 0, 0) := (lgs_2 403 (Nat.le_of_ble_eq_true rfl)).trans (by decide +kernel)
theorem lg_404 : mfetch 184 404 = some (404, .aload_n 0, 1, 0, 0, 0) := (lgs_2 404 (Nat.le_of_ble_eq_true rfl)).trans (by decide +kernel)
theorem lg_405 : mfetch 184 405 = some (405, .iload_n 3, 1, 0, 0, 0) := (lgs_2 405 (Nat.le_of_ble_eq_true rfl)).trans (by decide +kernel)
theorem lg_406 : mfetch 184 406 = some (406, .iconst 2, 1, 0, 0, 0) := (lgs_2 406 (Nat.le_of_ble_eq_true rfl)).trans (by decide +kernel)
theorem lg_407 : mfetch 184 407 = some (407, .iadd, 1, 0, 0, 0) := (lgs_2 407 (Nat.le_of_ble_eq_true rfl)).trans (by decide +kernel)
theorem lg_408 : mfetch 184 408 = some (408, .iaload, 1, 0, 0, 0) := (lgs_2 408 (Nat.le_of_ble_eq_true rfl)).trans (by decide +kernel)
theorem lg_409 : mfetch 184 409 = some (409, .aload_n 0, 1, 0, 0, 0) := (lgs_2 409 (Nat.le_of_ble_eq_true rfl)).trans (by decide +kernel)
theorem lg_410 : mfetch 184 410 = some (410, .iload_n 3, 1, 0, 0, 0) := (lgs_2 410 (Nat.le_of_ble_eq_true rfl)).trans (by decide +kernel)
theorem lg_411 : mfetch 184 411 = some (411, .iconst 3, 1, 0, 0, 0) := (lgs_2 411 (Nat.le_of_ble_eq_true rfl)).trans (by decide +kernel)
theorem lg_412 : mfetch 184 412 = some (412, .iadd, 1, 0, 0, 0) := (lgs_2 412 (Nat.le_of_ble_eq_true rfl)).trans (by decide +kernel)
theorem lg_413 : mfetch 184 413 = some (413, .iaload, 1, 0, 0, 0) := (lgs_2 413 (Nat.le_of_ble_eq_true rfl)).trans (by decide +kernel)
theorem lg_414 : mfetch 184 414 = some (414, .invokevirtual 52, 3, 143, 0, 0) := (lgs_2 414 (Nat.le_of_ble_eq_true rfl)).trans (by decide +kernel)
theorem lg_417 : mfetch 184 417 = some (417, .pop, 1, 0, 0, 0) := (lgs_2 417 (Nat.le_of_ble_eq_true rfl)).trans (by decide +kernel)
theorem lg_418 : mfetch 184 418 = some (418, .goto 1023, 3, 0, 0, 0) := (lgs_2 418 (Nat.le_of_ble_eq_true rfl)).trans (by decide +kernel)
theorem lg_421 : mfetch 184 421 = some (421, .aload_n 1, 1, 0, 0, 0) := (lgs_2 421 (Nat.le_of_ble_eq_true rfl)).trans (by decide +kernel)
theorem lg_422 : mfetch 184 422 = some (422, .aload_n 0, 1, 0, 0, 0) := (lgs_2 422 (Nat.le_of_ble_eq_true rfl)).trans (by decide +kernel)
theorem lg_423 : mfetch 184 423 = some (423, .iload_n 3, 1, 0, 0, 0) := (lgs_2 423 (Nat.le_of_ble_eq_true rfl)).trans (by decide +kernel)
theorem lg_424 : mfetch 184 424 = some (424, .iconst 1, 1, 0, 0, 0) := (lgs_2 424 (Nat.le_of_ble_eq_true rfl)).trans (by decide +kernel)
theorem lg_425 : mfetch 184 425 = some (425, .iadd, 1, 0, 0, 0) := (lgs_2 425 (Nat.le_of_ble_eq_true rfl)).trans (by decide +kernel)
theorem lg_426 : mfetch 184 426 = some (426, .iaload, 1, 0, 0, 0) := (lgs_2 426 (Nat.le_of_ble_eq_true rfl)).trans (by decide +kernel)
theorem lg_427 : mfetch 184 427 = some (427, .aload_n 0, 1, 0, 0, 0) := (lgs_2 427 (Nat.le_of_ble_eq_true rfl)).trans (by decide +kernel)
theorem lg_428 : mfetch 184 428 = some (428, .iload_n 3, 1, 0, 0, 0) := (lgs_2 428 (Nat.le_of_ble_eq_true rfl)).trans (by decide +kernel)
theorem lg_429 : mfetch 184 429 = some (429, .iconst 2, 1, 0, 0, 0) := (lgs_2 429 (Nat.le_of_ble_eq_true rfl)).trans (by decide +kernel)
theorem lg_430 : mfetch 184 430 = some (430, .iadd, 1, 0, 0, 0) := (lgs_2 430 (Nat.le_of_ble_eq_true rfl)).trans (by decide +kernel)
theorem lg_431 : mfetch 184 431 = some (431, .iaload, 1, 0, 0, 0) := (lgs_2 431 (Nat.le_of_ble_eq_true rfl)).trans (by decide +kernel)
theorem lg_432 : mfetch 184 432 = some (432, .aload_n 0, 1, 0, 0, 0) := (lgs_2 432 (Nat.le_of_ble_eq_true rfl)).trans (by decide +kernel)
theorem lg_433 : mfetch 184 433 = some (433, .iload_n 3, 1, 0, 0, 0) := (lgs_2 433 (Nat.le_of_ble_eq_true rfl)).trans (by decide +kernel)
theorem lg_434 : mfetch 184 434 = some (434, .iconst 3, 1, 0, 0, 0) := (lgs_2 434 (Nat.le_of_ble_eq_true rfl)).trans (by decide +kernel)
theorem lg_435 : mfetch 184 435 = some (435, .iadd, 1, 0, 0, 0) := (lgs_2 435 (Nat.le_of_ble_eq_true rfl)).trans (by decide +kernel)
theorem lg_436 : mfetch 184 436 = some (436, .iaload, 1, 0, 0, 0) := (lgs_2 436 (Nat.le_of_ble_eq_true rfl)).trans (by decide +kernel)
theorem lg_437 : mfetch 184 437 = some (437, .invokevirtual 53, 3, 65, 0, 0) := (lgs_2 437 (Nat.le_of_ble_eq_true rfl)).trans (by decide +kernel)
theorem lg_440 : mfetch 184 440 = some (440, .pop, 1, 0, 0, 0) := (lgs_2 440 (Nat.le_of_ble_eq_true rfl)).trans (by decide +kernel)
theorem lg_441 : mfetch 184 441 = some (441, .aload_n 2, 1, 0, 0, 0) := (lgs_2 441 (Nat.le_of_ble_eq_true rfl)).trans (by decide +kernel)
theorem lg_442 : mfetch 184 442 = some (442, .aload_n 0, 1, 0, 0, 0) := (lgs_2 442 (Nat.le_of_ble_eq_true rfl)).trans (by decide +kernel)
theorem lg_443 : mfetch 184 443 = some (443, .iload_n 3, 1, 0, 0, 0) := (lgs_2 443 (Nat.le_of_ble_eq_true rfl)).trans (by decide +kernel)
theorem lg_444 : mfetch 184 444 = some (444, .iconst 1, 1, 0, 0, 0) := (lgs_2 444 (Nat.le_of_ble_eq_true rfl)).trans (by decide +kernel)
theorem lg_445 : mfetch 184 445 = some (445, .iadd, 1, 0, 0, 0) := (lgs_2 445 (Nat.le_of_ble_eq_true rfl)).trans (by decide +kernel)
theorem lg_446 : mfetch 184 446 = some (446, .iaload, 1, 0, 0, 0) := (lgs_2 446 (Nat.le_of_ble_eq_true rfl)).trans (by decide +kernel)
theorem lg_447 : mfetch 184 447 = some (447, .aload_n 0, 1, 0, 0, 0) := (lgs_2 447 (Nat.le_of_ble_eq_true rfl)).trans (by decide +kernel)
theorem lg_448 : mfetch 184 448 = some (448, .iload_n 3, 1, 0, 0, 0) := (lgs_2 448 (Nat.le_of_ble_eq_true rfl)).trans (by decide +kernel)
theorem lg_449 : mfetch 184 449 = some (449, .iconst 2, 1, 0, 0, 0) := (lgs_2 449 (Nat.le_of_ble_eq_true rfl)).trans (by decide +kernel)
theorem lg_450 : mfetch 184 450 = some (450, .iadd, 1, 0, 0, 0) := (lgs_2 450 (Nat.le_of_ble_eq_true rfl)).trans (by decide +kernel)
theorem lg_451 : mfetch 184 451 = some (451, .iaload, 1, 0, 0, 0) := (lgs_2 451 (Nat.le_of_ble_eq_true rfl)).trans (by decide +kernel)
theorem lg_452 : mfetch 184 452 = some (452, .aload_n 0, 1, 0, 0, 0) := (lgs_2 452 (Nat.le_of_ble_eq_true rfl)).trans (by decide +kernel)
theorem lg_453 : mfetch 184 453 = some (453, .iload_n 3, 1, 0, 0, 0) := (lgs_2 453 (Nat.le_of_ble_eq_true rfl)).trans (by decide +kernel)
theorem lg_454 : mfetch 184 454 = some (454, .iconst 3, 1, 0, 0, 0) := (lgs_2 454 (Nat.le_of_ble_eq_true rfl)).trans (by decide +kernel)
theorem lg_455 : mfetch 184 455 = some (455, .iadd, 1, 0, 0, 0) := (lgs_2 455 (Nat.le_of_ble_eq_true rfl)).trans (by decide +kernel)
theorem lg_456 : mfetch 184 456 = some (456, .iaload, 1, 0, 0, 0) := (lgs_2 456 (Nat.le_of_ble_eq_true rfl)).trans (by decide +kernel)
theorem lg_457 : mfetch 184 457 = some (457, .invokevirtual 56, 3, 144, 0, 0) := (lgs_2 457 (Nat.le_of_ble_eq_true rfl)).trans (by decide +kernel)
theorem lg_460 : mfetch 184 460 = some (460, .pop, 1, 0, 0, 0) := (lgs_2 460 (Nat.le_of_ble_eq_true rfl)).trans (by decide +kernel)
theorem lg_461 : mfetch 184 461 = some (461, .goto 980, 3, 0, 0, 0) := (lgs_2 461 (Nat.le_of_ble_eq_true rfl)).trans (by decide +kernel)
theorem lg_464 : mfetch 184 464 = some (464, .aload_n 1, 1, 0, 0, 0) := (lgs_2 464 (Nat.le_of_ble_eq_true rfl)).trans (by decide +kernel)
theorem lg_465 : mfetch 184 465 = some (465, .aload_n 0, 1, 0, 0, 0) := (lgs_2 465 (Nat.le_of_ble_eq_true rfl)).trans (by decide +kernel)
theorem lg_466 : mfetch 184 466 = some (466, .iload_n 3, 1, 0, 0, 0) := (lgs_2 466 (Nat.le_of_ble_eq_true rfl)).trans (by decide +kernel)
theorem lg_467 : mfetch 184 467 = some (467, .iconst 1, 1, 0, 0, 0) := (lgs_2 467 (Nat.le_of_ble_eq_true rfl)).trans (by decide +kernel)
theorem lg_468 : mfetch 184 468 = some (468, .iadd, 1, 0, 0, 0) := (lgs_2 468 (Nat.le_of_ble_eq_true rfl)).trans (by decide +kernel)
theorem lg_469 : mfetch 184 469 = some (469, .iaload, 1, 0, 0, 0) := (lgs_2 469 (Nat.le_of_ble_eq_true rfl)).trans (by decide +kernel)
theorem lg_470 : mfetch 184 470 = some (470, .invokevirtual 57, 3, 66, 0, 0) := (lgs_2 470 (Nat.le_of_ble_eq_true rfl)).trans (by decide +kernel)
theorem lg_473 : mfetch 184 473 = some (473, .pop, 1, 0, 0, 0) := (lgs_2 473 (Nat.le_of_ble_eq_true rfl)).trans (by decide +kernel)
theorem lg_474 : mfetch 184 474 = some (474, .aload_n 2, 1, 0, 0, 0) := (lgs_2 474 (Nat.le_of_ble_eq_true rfl)).trans (by decide +kernel)
theorem lg_475 : mfetch 184 475 = some (475, .aload_n 0, 1, 0, 0, 0) := (lgs_2 475 (Nat.le_of_ble_eq_true rfl)).trans (by decide +kernel)
theorem lg_476 : mfetch 184 476 = some (476, .iload_n 3, 1, 0, 0, 0) := (lgs_2 476 (Nat.le_of_ble_eq_true rfl)).trans (by decide +kernel)
theorem lg_477 : mfetch 184 477 = some (477, .iconst 1, 1, 0, 0, 0) := (lgs_2 477 (Nat.le_of_ble_eq_true rfl)).trans (by decide +kernel)
theorem lg_478 : mfetch 184 478 = some (478, .iadd, 1, 0, 0, 0) := (lgs_2 478 (Nat.le_of_ble_eq_true rfl)).trans (by decide +kernel)
theorem lg_479 : mfetch 184 479 = some (479, .iaload, 1, 0, 0, 0) := (lgs_2 479 (Nat.le_of_ble_eq_true rfl)).trans (by decide +kernel)
theorem lg_480 : mfetch 184 480 = some (480, .invokevirtual 60, 3, 146, 0, 0) := (lgs_2 480 (Nat.le_of_ble_eq_true rfl)).trans (by decide +kernel)
theorem lg_483 : mfetch 184 483 = some (483, .pop, 1, 0, 0, 0) := (lgs_2 483 (Nat.le_of_ble_eq_true rfl)).trans (by decide +kernel)
theorem lg_484 : mfetch 184 484 = some (484, .goto 957, 3, 0, 0, 0) := (lgs_2 484 (Nat.le_of_ble_eq_true rfl)).trans (by decide +kernel)
theorem lg_487 : mfetch 184 487 = some (487, .aload_n 1, 1, 0, 0, 0) := (lgs_2 487 (Nat.le_of_ble_eq_true rfl)).trans (by decide +kernel)
theorem lg_488 : mfetch 184 488 = some (488, .aload_n 0, 1, 0, 0, 0) := (lgs_3 488 (Nat.le_of_ble_eq_true rfl)).trans (by decide +kernel)
theorem lg_489 : mfetch 184 489 = some (489, .iload_n 3, 1, 0, 0, 0) := (lgs_3 489 (Nat.le_of_ble_eq_true rfl)).trans (by decide +kernel)
theorem lg_490 : mfetch 184 490 = some (490, .iconst 1, 1, 0, 0, 0) := (lgs_3 490 (Nat.le_of_ble_eq_true rfl)).trans (by decide +kernel)
theorem lg_491 : mfetch 184 491 = some (491, .iadd, 1, 0, 0, 0) := (lgs_3 491 (Nat.le_of_ble_eq_true rfl)).trans (by decide +kernel)
theorem lg_492 : mfetch 184 492 = some (492, .iaload, 1, 0, 0, 0) := (lgs_3 492 (Nat.le_of_ble_eq_true rfl)).trans (by decide +kernel)
theorem lg_493 : mfetch 184 493 = some (493, .aload_n 0, 1, 0, 0, 0) := (lgs_3 493 (Nat.le_of_ble_eq_true rfl)).trans (by decide +kernel)
theorem lg_494 : mfetch 184 494 = some (494, .iload_n 3, 1, 0, 0, 0) := (lgs_3 494 (Nat.le_of_ble_eq_true rfl)).trans (by decide +kernel)
theorem lg_495 : mfetch 184 495 = some (495, .iconst 2, 1, 0, 0, 0) := (lgs_3 495 (Nat.le_of_ble_eq_true rfl)).trans (by decide +kernel)
theorem lg_496 : mfetch 184 496 = some (496, .iadd, 1, 0, 0, 0) := (lgs_3 496 (Nat.le_of_ble_eq_true rfl)).trans (by decide +kernel)
theorem lg_497 : mfetch 184 497 = some (497, .iaload, 1, 0, 0, 0) := (lgs_3 497 (Nat.le_of_ble_eq_true rfl)).trans (by decide +kernel)
theorem lg_498 : mfetch 184 498 = some (498, .invokevirtual 61, 3, 67, 0, 0) := (lgs_3 498 (Nat.le_of_ble_eq_true rfl)).trans (by decide +kernel)
theorem lg_501 : mfetch 184 501 = some (501, .pop, 1, 0, 0, 0) := (lgs_3 501 (Nat.le_of_ble_eq_true rfl)).trans (by decide +kernel)
theorem lg_502 : mfetch 184 502 = some (502, .aload_n 2, 1, 0, 0, 0) := (lgs_3 502 (Nat.le_of_ble_eq_true rfl)).trans (by decide +kernel)
theorem lg_503 : mfetch 184 503 = some (503, .aload_n 0, 1, 0, 0, 0) := (lgs_3 503 (Nat.le_of_ble_eq_true rfl)).trans (by decide +kernel)
theorem lg_504 : mfetch 184 504 = some (504, .iload_n 3, 1, 0, 0, 0) := (lgs_3 504 (Nat.le_of_ble_eq_true rfl)).trans (by decide +kernel)
theorem lg_505 : mfetch 184 505 = some (505, .iconst 1, 1, 0, 0, 0) := (lgs_3 505 (Nat.le_of_ble_eq_true rfl)).trans (by decide +kernel)
theorem lg_506 : mfetch 184 506 = some (506, .iadd, 1, 0, 0, 0) := (lgs_3 506 (Nat.le_of_ble_eq_true rfl)).trans (by decide +kernel)
theorem lg_507 : mfetch 184 507 = some (507, .iaload, 1, 0, 0, 0) := (lgs_3 507 (Nat.le_of_ble_eq_true rfl)).trans (by decide +kernel)
theorem lg_508 : mfetch 184 508 = some (508, .aload_n 0, 1, 0, 0, 0) := (lgs_3 508 (Nat.le_of_ble_eq_true rfl)).trans (by decide +kernel)
theorem lg_509 : mfetch 184 509 = some (509, .iload_n 3, 1, 0, 0, 0) := (lgs_3 509 (Nat.le_of_ble_eq_true rfl)).trans (by decide +kernel)
theorem lg_510 : mfetch 184 510 = some (510, .iconst 2, 1, 0, 0, 0) := (lgs_3 510 (Nat.le_of_ble_eq_true rfl)).trans (by decide +kernel)
theorem lg_511 : mfetch 184 511 = some (511, .iadd, 1, 0, 0, 0) := (lgs_3 511 (Nat.le_of_ble_eq_true rfl)).trans (by decide +kernel)
theorem lg_512 : mfetch 184 512 = some (512, .iaload, 1, 0, 0, 0) := (lgs_3 512 (Nat.le_of_ble_eq_true rfl)).trans (by decide +kernel)
theorem lg_513 : mfetch 184 513 = some (513, .invokevirtual 64, 3, 148, 0, 0) := (lgs_3 513 (Nat.le_of_ble_eq_true rfl)).trans (by decide +kernel)
theorem lg_516 : mfetch 184 516 = some (516, .pop, 1, 0, 0, 0) := (lgs_3 516 (Nat.le_of_ble_eq_true rfl)).trans (by decide +kernel)
theorem lg_517 : mfetch 184 517 = some (517, .goto 924, 3, 0, 0, 0) := (lgs_3 517 (Nat.le_of_ble_eq_true rfl)).trans (by decide +kernel)
theorem lg_520 : mfetch 184 520 = some (520, .aload_n 1, 1, 0, 0, 0) := (lgs_3 520 (Nat.le_of_ble_eq_true rfl)).trans (by decide +kernel)
theorem lg_521 : mfetch 184 521 = some (521, .aload_n 0, 1, 0, 0, 0) := (lgs_3 521 (Nat.le_of_ble_eq_true rfl)).trans (by decide +kernel)
theorem lg_522 : mfetch 184 522 = some (522, .iload_n 3, 1, 0, 0, 0) := (lgs_3 522 (Nat.le_of_ble_eq_true rfl)).trans (by decide +kernel)
theorem lg_523 : mfetch 184 523 = some (523, .iconst 1, 1, 0, 0, 0) := (lgs_3 523 (Nat.le_of_ble_eq_true rfl)).trans (by decide +kernel)
theorem lg_524 : mfetch 184 524 = some (524, .iadd, 1, 0, 0, 0) := (lgs_3 524 (Nat.le_of_ble_eq_true rfl)).trans (by decide +kernel)
theorem lg_525 : mfetch 184 525 = some (525, .iaload, 1, 0, 0, 0) := (lgs_3 525 (Nat.le_of_ble_eq_true rfl)).trans (by decide +kernel)
theorem lg_526 : mfetch 184 526 = some (526, .aload_n 0, 1, 0, 0, 0) := (lgs_3 526 (Nat.le_of_ble_eq_true rfl)).trans (by decide +kernel)
theorem lg_527 : mfetch 184 527 = some (527, .iload_n 3, 1, 0, 0, 0) := (lgs_3 527 (Nat.le_of_ble_eq_true rfl)).trans (by decide +kernel)
theorem lg_528 : mfetch 184 528 = some (528, .iconst 2, 1, 0, 0, 0) := (lgs_3 528 (Nat.le_of_ble_eq_true rfl)).trans (by decide +kernel)
theorem lg_529 : mfetch 184 529 = some (529, .iadd, 1, 0, 0, 0) := (lgs_3 529 (Nat.le_of_ble_eq_true rfl)).trans (by decide +kernel)
theorem lg_530 : mfetch 184 530 = some (530, .iaload, 1, 0, 0, 0) := (lgs_3 530 (Nat.le_of_ble_eq_true rfl)).trans (by decide +kernel)
theorem lg_531 : mfetch 184 531 = some (531, .invokevirtual 65, 3, 68, 0, 0) := (lgs_3 531 (Nat.le_of_ble_eq_true rfl)).trans (by decide +kernel)
theorem lg_534 : mfetch 184 534 = some (534, .pop, 1, 0, 0, 0) := (lgs_3 534 (Nat.le_of_ble_eq_true rfl)).trans (by decide +kernel)
theorem lg_535 : mfetch 184 535 = some (535, .aload_n 2, 1, 0, 0, 0) := (lgs_3 535 (Nat.le_of_ble_eq_true rfl)).trans (by decide +kernel)
theorem lg_536 : mfetch 184 536 = some (536, .aload_n 0, 1, 0, 0, 0) := (lgs_3 536 (Nat.le_of_ble_eq_true rfl)).trans (by decide +kernel)
theorem lg_537 : mfetch 184 537 = some (537, .iload_n 3, 1, 0, 0, 0) := (lgs_3 537 (Nat.le_of_ble_eq_true rfl)).trans (by decide +kernel)
theorem lg_538 : mfetch 184 538 = some (538, .iconst 1, 1, 0, 0, 0) := (lgs_3 538 (Nat.le_of_ble_eq_true rfl)).trans (by decide +kernel)
theorem lg_539 : mfetch 184 539 = some (539, .iadd, 1, 0, 0, 0) := (lgs_3 539 (Nat.le_of_ble_eq_true rfl)).trans (by decide +kernel)
theorem lg_540 : mfetch 184 540 = some (540, .iaload, 1, 0, 0, 0) := (lgs_3 540 (Nat.le_of_ble_eq_true rfl)).trans (by decide +kernel)
theorem lg_541 : mfetch 184 541 = some (541, .aload_n 0, 1, 0, 0, 0) := (lgs_3 541 (Nat.le_of_ble_eq_true rfl)).trans (by decide +kernel)
theorem lg_542 : mfetch 184 542 = some (542, .iload_n 3, 1, 0, 0, 0) := (lgs_3 542 (Nat.le_of_ble_eq_true rfl)).trans (by decide +kernel)
theorem lg_543 : mfetch 184 543 = some (543, .iconst 2, 1, 0, 0, 0) := (lgs_3 543 (Nat.le_of_ble_eq_true rfl)).trans (by decide +kernel)
theorem lg_544 : mfetch 184 544 = some (544, .iadd, 1, 0, 0, 0) := (lgs_3 544 (Nat.le_of_ble_eq_true rfl)).trans (by decide +kernel)
theorem lg_545 : mfetch 184 545 = some (545, .iaload, 1, 0, 0, 0) := (lgs_3 545 (Nat.le_of_ble_eq_true rfl)).trans (by decide +kernel)
theorem lg_546 : mfetch 184 546 = some (546, .invokevirtual 68, 3, 149, 0, 0) := (lgs_3 546 (Nat.le_of_ble_eq_true rfl)).trans (by decide +kernel)
theorem lg_549 : mfetch 184 549 = some (549, .pop, 1, 0, 0, 0) := (lgs_3 549 (Nat.le_of_ble_eq_true rfl)).trans (by decide +kernel)
theorem lg_550 : mfetch 184 550 = some (550, .goto 891, 3, 0, 0, 0) := (lgs_3 550 (Nat.le_of_ble_eq_true rfl)).trans (by decide +kernel)
theorem lg_553 : mfetch 184 553 = some (553, .aload_n 1, 1, 0, 0, 0) := (lgs_3 553 (Nat.le_of_ble_eq_true rfl)).trans (by decide +kernel)
theorem lg_554 : mfetch 184 554 = some (554, .aload_n 0, 1, 0, 0, 0) := (lgs_3 554 (Nat.le_of_ble_eq_true rfl)).trans (by decide +kernel)
theorem lg_555 : mfetch 184 555 = some (555, .iload_n 3, 1, 0, 0, 0) := (lgs_3 555 (Nat.le_of_ble_eq_true rfl)).trans (by decide +kernel)
theorem lg_556 : mfetch 184 556 = some (556, .iconst 1, 1, 0, 0, 0) := (lgs_3 556 (Nat.le_of_ble_eq_true rfl)).trans (by decide +kernel)
theorem lg_557 : mfetch 184 557 = some (557, .iadd, 1, 0, 0, 0) := (lgs_3 557 (Nat.le_of_ble_eq_true rfl)).trans (by decide +kernel)
theorem lg_558 : mfetch 184 558 = some (558, .iaload, 1, 0, 0, 0) := (lgs_3 558 (Nat.le_of_ble_eq_true rfl)).trans (by decide +kernel)
theorem lg_559 : mfetch 184 559 = some (559, .aload_n 0, 1, 0, 0, 0) := (lgs_3 559 (Nat.le_of_ble_eq_true rfl)).trans (by decide +kernel)
theorem lg_560 : mfetch 184 560 = some (560, .iload_n 3, 1, 0, 0, 0) := (lgs_3 560 (Nat.le_of_ble_eq_true rfl)).trans (by decide +kernel)
theorem lg_561 : mfetch 184 561 = some (561, .iconst 2, 1, 0, 0, 0) := (lgs_3 561 (Nat.le_of_ble_eq_true rfl)).trans (by decide +kernel)
theorem lg_562 : mfetch 184 562 = some (562, .iadd, 1, 0, 0, 0) := (lgs_3 562 (Nat.le_of_ble_eq_true rfl)).trans (by decide +kernel)
theorem lg_563 : mfetch 184 563 = some (563, .iaload, 1, 0, 0, 0) := (lgs_3 563 (Nat.le_of_ble_eq_true rfl)).trans (by decide +kernel)
theorem lg_564 : mfetch 184 564 = some (564, .invokevirtual 69, 3, 69, 0, 0) := (lgs_3 564 (Nat.le_of_ble_eq_true rfl)).trans (by decide +kernel)
theorem lg_567 : mfetch 184 567 = some (567, .pop, 1, 0, 0, 0) := (lgs_3 567 (Nat.le_of_ble_eq_true rfl)).trans (by decide +kernel)
theorem lg_568 : mfetch 184 568 = some (568, .aload_n 2, 1, 0, 0, 0) := (lgs_3 568 (Nat.le_of_ble_eq_true rfl)).trans (by decide +kernel)
theorem lg_569 : mfetch 184 569 = some (569, .aload_n 0, 1, 0, 0, 0) := (lgs_3 569 (Nat.le_of_ble_eq_true rfl)).trans (by decide +kernel)
theorem lg_570 : mfetch 184 570 = some (570, .iload_n 3, 1, 0, 0, 0) := (lgs_3 570 (Nat.le_of_ble_eq_true rfl)).trans (by decide +kernel)
theorem lg_571 : mfetch 184 571 = some (571, .iconst 1, 1, 0, 0, 0) := (lgs_3 571 (Nat.le_of_ble_eq_true rfl)).trans (by decide +kernel)
theorem lg_572 : mfetch 184 572 = some (572, .iadd, 1, 0, 0, 0) := (lgs_3 572 (Nat.le_of_ble_eq_true rfl)).trans (by decide +kernel)
theorem lg_573 : mfetch 184 573 = some (573, .iaload, 1, 0, 0, 0) := (lgs_3 573 (Nat.le_of_ble_eq_true rfl)).trans (by decide +kernel)
theorem lg_574 : mfetch 184 574 = some (574, .aload_n 0, 1, 0, 0, 0) := (lgs_3 574 (Nat.le_of_ble_eq_true rfl)).trans (by decide +kernel)
theorem lg_575 : mfetch 184 575 = some (575, .iload_n 3, 1, 0, 0, 0) := (lgs_3 575 (Nat.le_of_ble_eq_true rfl)).trans (by decide +kernel)
theorem lg_576 : mfetch 184 576 = some (576, .iconst 2, 1, 0, 0, 0) := (lgs_3 576 (Nat.le_of_ble_eq_true rfl)).trans (by decide +kernel)
theorem lg_577 : mfetch 184 577 = some (577, .iadd, 1, 0, 0, 0) := (lgs_3 577 (Nat.le_of_ble_eq_true rfl)).trans (by decide +kernel)
theorem lg_578 : mfetch 184 578 = some (578, .iaload, 1, 0, 0, 0) := (lgs_3 578 (Nat.le_of_ble_eq_true rfl)).trans (by decide +kernel)
theorem lg_579 : mfetch 184 579 = some (579, .invokevirtual 72, 3, 150, 0, 0) := (lgs_3 579 (Nat.le_of_ble_eq_true rfl)).trans (by decide +kernel)
theorem lg_582 : mfetch 184 582 = some (582, .pop, 1, 0, 0, 0) := (lgs_3 582 (Nat.le_of_ble_eq_true rfl)).trans (by decide +kernel)
theorem lg_583 : mfetch 184 583 = some (583, .goto 858, 3, 0, 0, 0) := (lgs_3 583 (Nat.le_of_ble_eq_true rfl)).trans (by decide +kernel)
theorem lg_586 : mfetch 184 586 = some (586, .aload_n 1, 1, 0, 0, 0) := (lgs_4 586 (Nat.le_of_ble_eq_true rfl)).trans (by decide +kernel)
theorem lg_587 : mfetch 184 587 = some (587, .aload_n 0, 1, 0, 0, 0) := (lgs_4 587 (Nat.le_of_ble_eq_true rfl)).trans (by decide +kernel)
theorem lg_588 : mfetch 184 588 = some (588, .iload_n 3, 1, 0, 0, 0) := (lgs_4 588 (Nat.le_of_ble_eq_true rfl)).trans (by decide +kernel)
theorem lg_589 : mfetch 184 589 = some (589, .iconst 1, 1, 0, 0, 0) := (lgs_4 589 (Nat.le_of_ble_eq_true rfl)).trans (by decide +kernel)
theorem lg_590 : mfetch 184 590 = some (590, .iadd, 1, 0, 0, 0) := (lgs_4 590 (Nat.le_of_ble_eq_true rfl)).trans (by decide +kernel)
theorem lg_591 : mfetch 184 591 = some (591, .iaload, 1, 0, 0, 0) := (lgs_4 591 (Nat.le_of_ble_eq_true rfl)).trans (by decide +kernel)
theorem lg_592 : mfetch 184 592 = some (592, .invokevirtual 73, 3, 70, 0, 0) := (lgs_4 592 (Nat.le_of_ble_eq_true rfl)).trans (by decide +kernel)
theorem lg_595 : mfetch 184 595 = some (595, .pop, 1, 0, 0, 0) := (lgs_4 595 (Nat.le_of_ble_eq_true rfl)).trans (by decide +kernel)
theorem lg_596 : mfetch 184 596 = some (596, .aload_n 2, 1, 0, 0, 0) := (lgs_4 596 (Nat.le_of_ble_eq_true rfl)).trans (by decide +kernel)
theorem lg_597 : mfetch 184 597 = some (597, .aload_n 0, 1, 0, 0, 0) := (lgs_4 597 (Nat.le_of_ble_eq_true rfl)).trans (by decide +kernel)
theorem lg_598 : mfetch 184 598 = some (598, .iload_n 3, 1, 0, 0, 0) := (lgs_4 598 (Nat.le_of_ble_eq_true rfl)).trans (by decide +kernel)
theorem lg_599 : mfetch 184 599 = some (599, .iconst 1, 1, 0, 0, 0) := (lgs_4 599 (Nat.le_of_ble_eq_true rfl)).trans (by decide +kernel)
theorem lg_600 : mfetch 184 600 = some (600, .iadd, 1, 0, 0, 0) := (lgs_4 600 (Nat.le_of_ble_eq_true rfl)).trans (by decide +kernel)
theorem lg_601 : mfetch 184 601 = some (601, .iaload, 1, 0, 0, 0) := (lgs_4 601 (Nat.le_of_ble_eq_true rfl)).trans (by decide +kernel)
theorem lg_602 : mfetch 184 602 = some (602, .invokevirtual 76, 3, 151, 0, 0) := (lgs_4 602 (Nat.le_of_ble_eq_true rfl)).trans (by decide +kernel)
theorem lg_605 : mfetch 184 605 = some (605, .pop, 1, 0, 0, 0) := (lgs_4 605 (Nat.le_of_ble_eq_true rfl)).trans (by decide +kernel)
theorem lg_606 : mfetch 184 606 = some (606, .goto 835, 3, 0, 0, 0) := (lgs_4 606 (Nat.le_of_ble_eq_true rfl)).trans (by decide +kernel)
theorem lg_609 : mfetch 184 609 = some (609, .aload_n 1, 1, 0, 0, 0) := (lgs_4 609 (Nat.le_of_ble_eq_true rfl)).trans (by decide +kernel)
theorem lg_610 : mfetch 184 610 = some (610, .aload_n 0, 1, 0, 0, 0) := (lgs_4 610 (Nat.le_of_ble_eq_true rfl)).trans (by decide +kernel)
theorem lg_611 : mfetch 184 611 = some (611, .iload_n 3, 1, 0, 0, 0) := (lgs_4 611 (Nat.le_of_ble_eq_true rfl)).trans (by decide +kernel)
theorem lg_612 : mfetch 184 612 = some (612, .iconst 1, 1, 0, 0, 0) := (lgs_4 612 (Nat.le_of_ble_eq_true rfl)).trans (by decide +kernel)
theorem lg_613 : mfetch 184 613 = some (613, .iadd, 1, 0, 0, 0) := (lgs_4 613 (Nat.le_of_ble_eq_true rfl)).trans (by decide +kernel)
theorem lg_614 : mfetch 184 614 = some (614, .iaload, 1, 0, 0, 0) := (lgs_4 614 (Nat.le_of_ble_eq_true rfl)).trans (by decide +kernel)
theorem lg_615 : mfetch 184 615 = some (615, .aload_n 0, 1, 0, 0, 0) := (lgs_4 615 (Nat.le_of_ble_eq_true rfl)).trans (by decide +kernel)
theorem lg_616 : mfetch 184 616 = some (616, .iload_n 3, 1, 0, 0, 0) := (lgs_4 616 (Nat.le_of_ble_eq_true rfl)).trans (by decide +kernel)
theorem lg_617 : mfetch 184 617 = some (617, .iconst 2, 1, 0, 0, 0) := (lgs_4 617 (Nat.le_of_ble_eq_true rfl)).trans (by decide +kernel)
theorem lg_618 : mfetch 184 618 = some (618, .iadd, 1, 0, 0, 0) := (lgs_4 618 (Nat.le_of_ble_eq_true rfl)).trans (by decide +kernel)
theorem lg_619 : mfetch 184 619 = some (619, .iaload, 1, 0, 0, 0) := (lgs_4 619 (Nat.le_of_ble_eq_true rfl)).trans (by decide +kernel)
theorem lg_620 : mfetch 184 620 = some (620, .invokevirtual 77, 3, 71, 0, 0) := (lgs_4 620 (Nat.le_of_ble_eq_true rfl)).trans (by decide +kernel)
theorem lg_623 : mfetch 184 623 = some (623, .pop, 1, 0, 0, 0) := (lgs_4 623 (Nat.le_of_ble_eq_true rfl)).trans (by decide +kernel)
theorem lg_624 : mfetch 184 624 = some (624, .aload_n 2, 1, 0, 0, 0) := (lgs_4 624 (Nat.le_of_ble_eq_true rfl)).trans (by decide +kernel)
theorem lg_625 : mfetch 184 625 = some (625, .aload_n 0, 1, 0, 0, 0) := (lgs_4 625 (Nat.le_of_ble_eq_true rfl)).trans (by decide +kernel)
theorem lg_626 : mfetch 184 626 = some (626, .iload_n 3, 1, 0, 0, 0) := (lgs_4 626 (Nat.le_of_ble_eq_true rfl)).trans (by decide +kernel)
theorem lg_627 : mfetch 184 627 = some (627, .iconst 1, 1, 0, 0, 0) := (lgs_4 627 (Nat.le_of_ble_eq_true rfl)).trans (by decide +kernel)
theorem lg_628 : mfetch 184 628 = some (628, .iadd, 1, 0, 0, 0) := (lgs_4 628 (Nat.le_of_ble_eq_true rfl)).trans (by decide +kernel)
theorem lg_629 : mfetch 184 629 = some (629, .iaload, 1, 0, 0, 0) := (lgs_4 629 (Nat.le_of_ble_eq_true rfl)).trans (by decide +kernel)
theorem lg_630 : mfetch 184 630 = some (630, .aload_n 0, 1, 0, 0, 0) := (lgs_4 630 (Nat.le_of_ble_eq_true rfl)).trans (by decide +kernel)
theorem lg_631 : mfetch 184 631 = some (631, .iload_n 3, 1, 0, 0, 0) := (lgs_4 631 (Nat.le_of_ble_eq_true rfl)).trans (by decide +kernel)
theorem lg_632 : mfetch 184 632 = some (632, .iconst 2, 1, 0, 0, 0) := (lgs_4 632 (Nat.le_of_ble_eq_true rfl)).trans (by decide +kernel)
theorem lg_633 : mfetch 184 633 = some (633, .iadd, 1, 0, 0, 0) := (lgs_4 633 (Nat.le_of_ble_eq_true rfl)).trans (by decide +kernel)
theorem lg_634 : mfetch 184 634 = some (634, .iaload, 1, 0, 0, 0) := (lgs_4 634 (Nat.le_of_ble_eq_true rfl)).trans (by decide +kernel)
theorem lg_635 : mfetch 184 635 = some (635, .invokevirtual 80, 3, 154, 0, 0) := (lgs_4 635 (Nat.le_of_ble_eq_true rfl)).trans (by decide +kernel)
theorem lg_638 : mfetch 184 638 = some (638, .pop, 1, 0, 0, 0) := (lgs_4 638 (Nat.le_of_ble_eq_true rfl)).trans (by decide +kernel)
theorem lg_639 : mfetch 184 639 = some (639, .goto 802, 3, 0, 0, 0) := (lgs_4 639 (Nat.le_of_ble_eq_true rfl)).trans (by decide +kernel)
theorem lg_642 : mfetch 184 642 = some (642, .aload_n 1, 1, 0, 0, 0) := (lgs_4 642 (Nat.le_of_ble_eq_true rfl)).trans (by decide +kernel)
theorem lg_643 : mfetch 184 643 = some (643, .aload_n 0, 1, 0, 0, 0) := (lgs_4 643 (Nat.le_of_ble_eq_true rfl)).trans (by decide +kernel)
theorem lg_644 : mfetch 184 644 = some (644, .iload_n 3, 1, 0, 0, 0) := (lgs_4 644 (Nat.le_of_ble_eq_true rfl)).trans (by decide +kernel)
theorem lg_645 : mfetch 184 645 = some (645, .iconst 1, 1, 0, 0, 0) := (lgs_4 645 (Nat.le_of_ble_eq_true rfl)).trans (by decide +kernel)
theorem lg_646 : mfetch 184 646 = some (646, .iadd, 1, 0, 0, 0) := (lgs_4 646 (Nat.le_of_ble_eq_true rfl)).trans (by decide +kernel)
theorem lg_647 : mfetch 184 647 = some (647, .iaload, 1, 0, 0, 0) := (lgs_4 647 (Nat.le_of_ble_eq_true rfl)).trans (by decide +kernel)
theorem lg_648 : mfetch 184 648 = some (648, .aload_n 0, 1, 0, 0, 0) := (lgs_4 648 (Nat.le_of_ble_eq_true rfl)).trans (by decide +kernel)
theorem lg_649 : mfetch 184 649 = some (649, .iload_n 3, 1, 0, 0, 0) := (lgs_4 649 (Nat.le_of_ble_eq_true rfl)).trans (by decide +kernel)
theorem lg_650 : mfetch 184 650 = some (650, .iconst 2, 1, 0, 0, 0) := (lgs_4 650 (Nat.le_of_ble_eq_true rfl)).trans (by decide +kernel)
theorem lg_651 : mfetch 184 651 = some (651, .iadd, 1, 0, 0, 0) := (lgs_4 651 (Nat.le_of_ble_eq_true rfl)).trans (by decide +kernel)
theorem lg_652 : mfetch 184 652 = some (652, .iaload, 1, 0, 0, 0) := (lgs_4 652 (Nat.le_of_ble_eq_true rfl)).trans (by decide +kernel)
theorem lg_653 : mfetch 184 653 = some (653, .aload_n 0, 1, 0, 0, 0) := (lgs_4 653 (Nat.le_of_ble_eq_true rfl)).trans (by decide +kernel)
theorem lg_654 : mfetch 184 654 = some (654, .iload_n 3, 1, 0, 0, 0) := (lgs_4 654 (Nat.le_of_ble_eq_true rfl)).trans (by decide +kernel)
theorem lg_655 : mfetch 184 655 = some (655, .iconst 3, 1, 0, 0, 0) := (lgs_4 655 (Nat.le_of_ble_eq_true rfl)).trans (by decide +kernel)
theorem lg_656 : mfetch 184 656 = some (656, .iadd, 1, 0, 0, 0) := (lgs_4 656 (Nat.le_of_ble_eq_true rfl)).trans (by decide +kernel)
theorem lg_657 : mfetch 184 657 = some (657, .iaload, 1, 0, 0, 0) := (lgs_4 657 (Nat.le_of_ble_eq_true rfl)).trans (by decide +kernel)
theorem lg_658 : mfetch 184 658 = some (658, .invokevirtual 81, 3, 73, 0, 0) := (lgs_4 658 (Nat.le_of_ble_eq_true rfl)).trans (by decide +kernel)
theorem lg_661 : mfetch 184 661 = some (661, .pop, 1, 0, 0, 0) := (lgs_4 661 (Nat.le_of_ble_eq_true rfl)).trans (by decide +kernel)
theorem lg_662 : mfetch 184 662 = some (662, .aload_n 2, 1, 0, 0, 0) := (lgs_4 662 (Nat.le_of_ble_eq_true rfl)).trans (by decide +kernel)
theorem lg_663 : mfetch 184 663 = some (663, .aload_n 0, 1, 0, 0, 0) := (lgs_4 663 (Nat.le_of_ble_eq_true rfl)).trans (by decide +kernel)
theorem lg_664 : mfetch 184 664 = some (664, .iload_n 3, 1, 0, 0, 0) := (lgs_4 664 (Nat.le_of_ble_eq_true rfl)).trans (by decide +kernel)
theorem lg_665 : mfetch 184 665 = some (665, .iconst 1, 1, 0, 0, 0) := (lgs_4 665 (Nat.le_of_ble_eq_true rfl)).trans (by decide +kernel)
theorem lg_666 : mfetch 184 666 = some (666, .iadd, 1, 0, 0, 0) := (lgs_4 666 (Nat.le_of_ble_eq_true rfl)).trans (by decide +kernel)
theorem lg_667 : mfetch 184 667 = some (667, .iaload, 1, 0, 0, 0) := (lgs_4 667 (Nat.le_of_ble_eq_true rfl)).trans (by decide +kernel)
theorem lg_668 : mfetch 184 668 = some (668, .aload_n 0, 1, 0, 0, 0) := (lgs_4 668 (Nat.le_of_ble_eq_true rfl)).trans (by decide +kernel)
theorem lg_669 : mfetch 184 669 = some (669, .iload_n 3, 1, 0, 0, 0) := (lgs_4 669 (Nat.le_of_ble_eq_true rfl)).trans (by decide +kernel)
theorem lg_670 : mfetch 184 670 = some (670, .iconst 2, 1, 0, 0, 0) := (lgs_4 670 (Nat.le_of_ble_eq_true rfl)).trans (by decide +kernel)
theorem lg_671 : mfetch 184 671 = some (671, .iadd, 1, 0, 0, 0) := (lgs_4 671 (Nat.le_of_ble_eq_true rfl)).trans (by decide +kernel)
theorem lg_672 : mfetch 184 672 = some (672, .iaload, 1, 0, 0, 0) := (lgs_4 672 (Nat.le_of_ble_eq_true rfl)).trans (by decide +kernel)
theorem lg_673 : mfetch 184 673 = some (673, .aload_n 0, 1, 0, 0, 0) := (lgs_4 673 (Nat.le_of_ble_eq_true rfl)).trans (by decide +kernel)
theorem lg_674 : mfetch 184 674 = some (674, .iload_n 3, 1, 0, 0, 0) := (lgs_4 674 (Nat.le_of_ble_eq_true rfl)).trans (by decide +kernel)
theorem lg_675 : mfetch 184 675 = some (675, .iconst 3, 1, 0, 0, 0) := (lgs_4 675 (Nat.le_of_ble_eq_true rfl)).trans (by decide +kernel)
theorem lg_676 : mfetch 184 676 = some (676, .iadd, 1, 0, 0, 0) := (lgs_4 676 (Nat.le_of_ble_eq_true rfl)).trans (by decide +kernel)
theorem lg_677 : mfetch 184 677 = some (677, .iaload, 1, 0, 0, 0) := (lgs_4 677 (Nat.le_of_ble_eq_true rfl)).trans (by decide +kernel)
theorem lg_678 : mfetch 184 678 = some (678, .invokevirtual 84, 3, 155, 0, 0) := (lgs_4 678 (Nat.le_of_ble_eq_true rfl)).trans (by decide +kernel)
theorem lg_681 : mfetch 184 681 = some (681, .pop, 1, 0, 0, 0) := (lgs_4 681 (Nat.le_of_ble_eq_true rfl)).trans (by decide +kernel)
theorem lg_682 : mfetch 184 682 = some (682, .goto 759, 3, 0, 0, 0) := (lgs_5 682 (Nat.le_of_ble_eq_true rfl)).trans (by decide +kernel)
theorem lg_685 : mfetch 184 685 = some (685, .aload_n 1, 1, 0, 0, 0) := (lgs_5 685 (Nat.le_of_ble_eq_true rfl)).trans (by decide +kernel)
theorem lg_686 : mfetch 184 686 = some (686, .aload_n 0, 1, 0, 0, 0) := (lgs_5 686 (Nat.le_of_ble_eq_true rfl)).trans (by decide +kernel)
theorem lg_687 : mfetch 184 687 = some (687, .iload_n 3, 1, 0, 0, 0) := (lgs_5 687 (Nat.le_of_ble_eq_true rfl)).trans (by decide +kernel)
theorem lg_688 : mfetch 184 688 = some (688, .iconst 1, 1, 0, 0, 0) := (lgs_5 688 (Nat.le_of_ble_eq_true rfl)).trans (by decide +kernel)
theorem lg_689 : mfetch 184 689 = some (689, .iadd, 1, 0, 0, 0) := (lgs_5 689 (Nat.le_of_ble_eq_true rfl)).trans (by decide +kernel)
theorem lg_690 : mfetch 184 690 = some (690, .iaload, 1, 0, 0, 0) := (lgs_5 690 (Nat.le_of_ble_eq_true rfl)).trans (by decide +kernel)
theorem lg_691 : mfetch 184 691 = some (691, .aload_n 0, 1, 0, 0, 0) := (lgs_5 691 (Nat.le_of_ble_eq_true rfl)).trans (by decide +kernel)
theorem lg_692 : mfetch 184 692 = some (692, .iload_n 3, 1, 0, 0, 0) := (lgs_5 692 (Nat.le_of_ble_eq_true rfl)).trans (by decide +kernel)
theorem lg_693 : mfetch 184 693 = some (693, .iconst 2, 1, 0, 0, 0) := (lgs_5 693 (Nat.le_of_ble_eq_true rfl)).trans (by decide +kernel)
theorem lg_694 : mfetch 184 694 = some (694, .iadd, 1, 0, 0, 0) := (lgs_5 694 (Nat.le_of_ble_eq_true rfl)).trans (by decide +kernel)
theorem lg_695 : mfetch 184 695 = some (695, .iaload, 1, 0, 0, 0) := (lgs_5 695 (Nat.le_of_ble_eq_true rfl)).trans (by decide +kernel)
theorem lg_696 : mfetch 184 696 = some (696, .invokevirtual 85, 3, 74, 0, 0) := (lgs_5 696 (Nat.le_of_ble_eq_true rfl)).trans (by decide +kernel)
theorem lg_699 : mfetch 184 699 = some (699, .pop, 1, 0, 0, 0) := (lgs_5 699 (Nat.le_of_ble_eq_true rfl)).trans (by decide +kernel)
theorem lg_700 : mfetch 184 700 = some (700, .aload_n 2, 1, 0, 0, 0) := (lgs_5 700 (Nat.le_of_ble_eq_true rfl)).trans (by decide +kernel)
theorem lg_701 : mfetch 184 701 = some (701, .aload_n 0, 1, 0, 0, 0) := (lgs_5 701 (Nat.le_of_ble_eq_true rfl)).trans (by decide +kernel)
theorem lg_702 : mfetch 184 702 = some (702, .iload_n 3, 1, 0, 0, 0) := (lgs_5 702 (Nat.le_of_ble_eq_true rfl)).trans (by decide +kernel)
theorem lg_703 : mfetch 184 703 = some (703, .iconst 1, 1, 0, 0, 0) := (lgs_5 703 (Nat.le_of_ble_eq_true rfl)).trans (by decide +kernel)
theorem lg_704 : mfetch 184 704 = some (704, .iadd, 1, 0, 0, 0) := (lgs_5 704 (Nat.le_of_ble_eq_true rfl)).trans (by decide +kernel)
theorem lg_705 : mfetch 184 705 = some (705, .iaload, 1, 0, 0, 0) := (lgs_5 705 (Nat.le_of_ble_eq_true rfl)).trans (by decide +kernel)
theorem lg_706 : mfetch 184 706 = some (706, .aload_n 0, 1, 0, 0, 0) := (lgs_5 706 (Nat.le_of_ble_eq_true rfl)).trans (by decide +kernel)
theorem lg_707 : mfetch 184 707 = some (707, .iload_n 3, 1, 0, 0, 0) := (lgs_5 707 (Nat.le_of_ble_eq_true rfl)).trans (by decide +kernel)
theorem lg_708 : mfetch 184 708 = some (708, .iconst 2, 1, 0, 0, 0) := (lgs_5 708 (Nat.le_of_ble_eq_true rfl)).trans (by decide +kernel)
theorem lg_709 : mfetch 184 709 = some (709, .iadd, 1, 0, 0, 0) := (lgs_5 709 (Nat.le_of_ble_eq_true rfl)).trans (by decide +kernel)
theorem lg_710 : mfetch 184 710 = some (710, .iaload, 1, 0, 0, 0) := (lgs_5 710 (Nat.le_of_ble_eq_true rfl)).trans (by decide +kernel)
theorem lg_711 : mfetch 184 711 = some (711, .invokevirtual 88, 3, 156, 0, 0) := (lgs_5 711 (Nat.le_of_ble_eq_true rfl)).trans (by decide +kernel)
theorem lg_714 : mfetch 184 714 = some (714, .pop, 1, 0, 0, 0) := (lgs_5 714 (Nat.le_of_ble_eq_true rfl)).trans (by decide +kernel)
theorem lg_715 : mfetch 184 715 = some (715, .goto 726, 3, 0, 0, 0) := (lgs_5 715 (Nat.le_of_ble_eq_true rfl)).trans (by decide +kernel)
theorem lg_718 : mfetch 184 718 = some (718, .aload_n 1, 1, 0, 0, 0) := (lgs_5 718 (Nat.le_of_ble_eq_true rfl)).trans (by decide +kernel)
theorem lg_719 : mfetch 184 719 = some (719, .invokevirtual 89, 3, 75, 0, 0) := (lgs_5 719 (Nat.le_of_ble_eq_true rfl)).trans (by decide +kernel)
theorem lg_722 : mfetch 184 722 = some (722, .pop, 1, 0, 0, 0) := (lgs_5 722 (Nat.le_of_ble_eq_true rfl)).trans (by decide +kernel)
theorem lg_723 : mfetch 184 723 = some (723, .aload_n 2, 1, 0, 0, 0) := (lgs_5 723 (Nat.le_of_ble_eq_true rfl)).trans (by decide +kernel)
theorem lg_724 : mfetch 184 724 = some (724, .invokevirtual 92, 3, 157, 0, 0) := (lgs_5 724 (Nat.le_of_ble_eq_true rfl)).trans (by decide +kernel)
theorem lg_727 : mfetch 184 727 = some (727, .pop, 1, 0, 0, 0) := (lgs_5 727 (Nat.le_of_ble_eq_true rfl)).trans (by decide +kernel)
theorem lg_728 : mfetch 184 728 = some (728, .goto 713, 3, 0, 0, 0) := (lgs_5 728 (Nat.le_of_ble_eq_true rfl)).trans (by decide +kernel)
theorem lg_731 : mfetch 184 731 = some (731, .aload_n 1, 1, 0, 0, 0) := (lgs_5 731 (Nat.le_of_ble_eq_true rfl)).trans (by decide +kernel)
theorem lg_732 : mfetch 184 732 = some (732, .aload_n 0, 1, 0, 0, 0) := (lgs_5 732 (Nat.le_of_ble_eq_true rfl)).trans (by decide +kernel)
theorem lg_733 : mfetch 184 733 = some (733, .iload_n 3, 1, 0, 0, 0) := (lgs_5 733 (Nat.le_of_ble_eq_true rfl)).trans (by decide +kernel)
theorem lg_734 : mfetch 184 734 = some (734, .iconst 1, 1, 0, 0, 0) := (lgs_5 734 (Nat.le_of_ble_eq_true rfl)).trans (by decide +kernel)
theorem lg_735 : mfetch 184 735 = some (735, .iadd, 1, 0, 0, 0) := (lgs_5 735 (Nat.le_of_ble_eq_true rfl)).trans (by decide +kernel)
theorem lg_736 : mfetch 184 736 = some (736, .iaload, 1, 0, 0, 0) := (lgs_5 736 (Nat.le_of_ble_eq_true rfl)).trans (by decide +kernel)
theorem lg_737 : mfetch 184 737 = some (737, .aload_n 0, 1, 0, 0, 0) := (lgs_5 737 (Nat.le_of_ble_eq_true rfl)).trans (by decide +kernel)
theorem lg_738 : mfetch 184 738 = some (738, .iload_n 3, 1, 0, 0, 0) := (lgs_5 738 (Nat.le_of_ble_eq_true rfl)).trans (by decide +kernel)
theorem lg_739 : mfetch 184 739 = some (739, .iconst 2, 1, 0, 0, 0) := (lgs_5 739 (Nat.le_of_ble_eq_true rfl)).trans (by decide +kernel)
theorem lg_740 : mfetch 184 740 = some (740, .iadd, 1, 0, 0, 0) := (lgs_5 740 (Nat.le_of_ble_eq_true rfl)).trans (by decide +kernel)
theorem lg_741 : mfetch 184 741 = some (741, .iaload, 1, 0, 0, 0) := (lgs_5 741 (Nat.le_of_ble_eq_true rfl)).trans (by decide +kernel)
theorem lg_742 : mfetch 184 742 = some (742, .aload_n 0, 1, 0, 0, 0) := (lgs_5 742 (Nat.le_of_ble_eq_true rfl)).trans (by decide +kernel)
theorem lg_743 : mfetch 184 743 = some (743, .iload_n 3, 1, 0, 0, 0) := (lgs_5 743 (Nat.le_of_ble_eq_true rfl)).trans (by decide +kernel)
theorem lg_744 : mfetch 184 744 = some (744, .iconst 3, 1, 0, 0, 0) := (lgs_5 744 (Nat.le_of_ble_eq_true rfl)).trans (by decide +kernel)
theorem lg_745 : mfetch 184 745 = some (745, .iadd, 1, 0, 0, 0) := (lgs_5 745 (Nat.le_of_ble_eq_true rfl)).trans (by decide +kernel)
theorem lg_746 : mfetch 184 746 = some (746, .iaload, 1, 0, 0, 0) := (lgs_5 746 (Nat.le_of_ble_eq_true rfl)).trans (by decide +kernel)
theorem lg_747 : mfetch 184 747 = some (747, .invokevirtual 93, 3, 76, 0, 0) := (lgs_5 747 (Nat.le_of_ble_eq_true rfl)).trans (by decide +kernel)
theorem lg_750 : mfetch 184 750 = some (750, .pop, 1, 0, 0, 0) := (lgs_5 750 (Nat.le_of_ble_eq_true rfl)).trans (by decide +kernel)
theorem lg_751 : mfetch 184 751 = some (751, .aload_n 2, 1, 0, 0, 0) := (lgs_5 751 (Nat.le_of_ble_eq_true rfl)).trans (by decide +kernel)
theorem lg_752 : mfetch 184 752 = some (752, .aload_n 0, 1, 0, 0, 0) := (lgs_5 752 (Nat.le_of_ble_eq_true rfl)).trans (by decide +kernel)
theorem lg_753 : mfetch 184 753 = some (753, .iload_n 3, 1, 0, 0, 0) := (lgs_5 753 (Nat.le_of_ble_eq_true rfl)).trans (by decide +kernel)
theorem lg_754 : mfetch 184 754 = some (754, .iconst 1, 1, 0, 0, 0) := (lgs_5 754 (Nat.le_of_ble_eq_true rfl)).trans (by decide +kernel)
theorem lg_755 : mfetch 184 755 = some (755, .iadd, 1, 0, 0, 0) := (lgs_5 755 (Nat.le_of_ble_eq_true rfl)).trans (by decide +kernel)
theorem lg_756 : mfetch 184 756 = some (756, .iaload, 1, 0, 0, 0) := (lgs_5 756 (Nat.le_of_ble_eq_true rfl)).trans (by decide +kernel)
theorem lg_757 : mfetch 184 757 = some (757, .aload_n 0, 1, 0, 0, 0) := (lgs_5 757 (Nat.le_of_ble_eq_true rfl)).trans (by decide +kernel)
theorem lg_758 : mfetch 184 758 = some (758, .iload_n 3, 1, 0, 0, 0) := (lgs_5 758 (Nat.le_of_ble_eq_true rfl)).trans (by decide +kernel)
theorem lg_759 : mfetch 184 759 = some (759, .iconst 2, 1, 0, 0, 0) := (lgs_5 759 (Nat.le_of_ble_eq_true rfl)).trans (by decide +kernel)
theorem lg_760 : mfetch 184 760 = some (760, .iadd, 1, 0, 0, 0) := (lgs_5 760 (Nat.le_of_ble_eq_true rfl)).trans (by decide +kernel)
theorem lg_761 : mfetch 184 761 = some (761, .iaload, 1, 0, 0, 0) := (lgs_5 761 (Nat.le_of_ble_eq_true rfl)).trans (by decide +kernel)
theorem lg_762 : mfetch 184 762 = some (762, .aload_n 0, 1, 0, 0, 0) := (lgs_5 762 (Nat.le_of_ble_eq_true rfl)).trans (by decide +kernel)
theorem lg_763 : mfetch 184 763 = some (763, .iload_n 3, 1, 0, 0, 0) := (lgs_5 763 (Nat.le_of_ble_eq_true rfl)).trans (by decide +kernel)
theorem lg_764 : mfetch 184 764 = some (764, .iconst 3, 1, 0, 0, 0) := (lgs_5 764 (Nat.le_of_ble_eq_true rfl)).trans (by decide +kernel)
theorem lg_765 : mfetch 184 765 = some (765, .iadd, 1, 0, 0, 0) := (lgs_5 765 (Nat.le_of_ble_eq_true rfl)).trans (by decide +kernel)
theorem lg_766 : mfetch 184 766 = some (766, .iaload, 1, 0, 0, 0) := (lgs_5 766 (Nat.le_of_ble_eq_true rfl)).trans (by decide +kernel)
theorem lg_767 : mfetch 184 767 = some (767, .invokevirtual 96, 3, 159, 0, 0) := (lgs_5 767 (Nat.le_of_ble_eq_true rfl)).trans (by decide +kernel)
theorem lg_770 : mfetch 184 770 = some (770, .pop, 1, 0, 0, 0) := (lgs_5 770 (Nat.le_of_ble_eq_true rfl)).trans (by decide +kernel)
theorem lg_771 : mfetch 184 771 = some (771, .goto 670, 3, 0, 0, 0) := (lgs_5 771 (Nat.le_of_ble_eq_true rfl)).trans (by decide +kernel)
theorem lg_774 : mfetch 184 774 = some (774, .aload_n 1, 1, 0, 0, 0) := (lgs_5 774 (Nat.le_of_ble_eq_true rfl)).trans (by decide +kernel)
theorem lg_775 : mfetch 184 775 = some (775, .aload_n 0, 1, 0, 0, 0) := (lgs_5 775 (Nat.le_of_ble_eq_true rfl)).trans (by decide +kernel)
theorem lg_776 : mfetch 184 776 = some (776, .iload_n 3, 1, 0, 0, 0) := (lgs_5 776 (Nat.le_of_ble_eq_true rfl)).trans (by decide +kernel)
theorem lg_777 : mfetch 184 777 = some (777, .iconst 1, 1, 0, 0, 0) := (lgs_5 777 (Nat.le_of_ble_eq_true rfl)).trans (by decide +kernel)
theorem lg_778 : mfetch 184 778 = some (778, .iadd, 1, 0, 0, 0) := (lgs_5 778 (Nat.le_of_ble_eq_true rfl)).trans (by decide +kernel)
theorem lg_779 : mfetch 184 779 = some (779, .iaload, 1, 0, 0, 0) := (lgs_5 779 (Nat.le_of_ble_eq_true rfl)).trans (by decide +kernel)
theorem lg_780 : mfetch 184 780 = some (780, .aload_n 0, 1, 0, 0, 0) := (lgs_5 780 (Nat.le_of_ble_eq_true rfl)).trans (by decide +kernel)
theorem lg_781 : mfetch 184 781 = some (781, .iload_n 3, 1, 0, 0, 0) := (lgs_5 781 (Nat.le_of_ble_eq_true rfl)).trans (by decide +kernel)
theorem lg_782 : mfetch 184 782 = some (782, .iconst 2, 1, 0, 0, 0) := (lgs_6 782 (Nat.le_of_ble_eq_true rfl)).trans (by decide +kernel)
theorem lg_783 : mfetch 184 783 = some (783, .iadd, 1, 0, 0, 0) := (lgs_6 783 (Nat.le_of_ble_eq_true rfl)).trans (by decide +kernel)
theorem lg_784 : mfetch 184 784 = some (784, .iaload, 1, 0, 0, 0) := (lgs_6 784 (Nat.le_of_ble_eq_true rfl)).trans (by decide +kernel)
theorem lg_785 : mfetch 184 785 = some (785, .aload_n 0, 1, 0, 0, 0) := (lgs_6 785 (Nat.le_of_ble_eq_true rfl)).trans (by decide +kernel)
theorem lg_786 : mfetch 184 786 = some (786, .iload_n 3, 1, 0, 0, 0) := (lgs_6 786 (Nat.le_of_ble_eq_true rfl)).trans (by decide +kernel)
theorem lg_787 : mfetch 184 787 = some (787, .iconst 3, 1, 0, 0, 0) := (lgs_6 787 (Nat.le_of_ble_eq_true rfl)).trans (by decide +kernel)
theorem lg_788 : mfetch 184 788 = some (788, .iadd, 1, 0, 0, 0) := (lgs_6 788 (Nat.le_of_ble_eq_true rfl)).trans (by decide +kernel)
theorem lg_789 : mfetch 184 789 = some (789, .iaload, 1, 0, 0, 0) := (lgs_6 789 (Nat.le_of_ble_eq_true rfl)).trans (by decide +kernel)
theorem lg_790 : mfetch 184 790 = some (790, .invokevirtual 97, 3, 77, 0, 0) := (lgs_6 790 (Nat.le_of_ble_eq_true rfl)).trans (by decide +kernel)
theorem lg_793 : mfetch 184 793 = some (793, .pop, 1, 0, 0, 0) := (lgs_6 793 (Nat.le_of_ble_eq_true rfl)).trans (by decide +kernel)
theorem lg_794 : mfetch 184 794 = some (794, .aload_n 2, 1, 0, 0, 0) := (lgs_6 794 (Nat.le_of_ble_eq_true rfl)).trans (by decide +kernel)
theorem lg_795 : mfetch 184 795 = some (795, .aload_n 0, 1, 0, 0, 0) := (lgs_6 795 (Nat.le_of_ble_eq_true rfl)).trans (by decide +kernel)
theorem lg_796 : mfetch 184 796 = some (796, .iload_n 3, 1, 0, 0, 0) := (lgs_6 796 (Nat.le_of_ble_eq_true rfl)).trans (by decide +kernel)
theorem lg_797 : mfetch 184 797 = some (797, .iconst 1, 1, 0, 0, 0) := (lgs_6 797 (Nat.le_of_ble_eq_true rfl)).trans (by decide +kernel)
theorem lg_798 : mfetch 184 798 = some (798, .iadd, 1, 0, 0, 0) := (lgs_6 798 (Nat.le_of_ble_eq_true rfl)).trans (by decide +kernel)
theorem lg_799 : mfetch 184 799 = some (799, .iaload, 1, 0, 0, 0) := (lgs_6 799 (Nat.le_of_ble_eq_true rfl)).trans (by decide +kernel)
theorem lg_800 : mfetch 184 800 = some (800, .aload_n 0, 1, 0, 0, 0) := (lgs_6 800 (Nat.le_of_ble_eq_true rfl)).trans (by decide +kernel)
theorem lg_801 : mfetch 184 801 = some (801, .iload_n 3, 1, 0, 0, 0) := (lgs_6 801 (Nat.le_of_ble_eq_true rfl)).trans (by decide +kernel)
theorem lg_802 : mfetch 184 802 = some (802, .iconst 2, 1, 0, 0, 0) := (lgs_6 802 (Nat.le_of_ble_eq_true rfl)).trans (by decide +kernel)
theorem lg_803 : mfetch 184 803 = some (803, .iadd, 1, 0, 0, 0) := (lgs_6 803 (Nat.le_of_ble_eq_true rfl)).trans (by decide +kernel)
theorem lg_804 : mfetch 184 804 = some (804, .iaload, 1, 0, 0, 0) := (lgs_6 804 (Nat.le_of_ble_eq_true rfl)).trans (by decide +kernel)
theorem lg_805 : mfetch 184 805 = some (805, .aload_n 0, 1, 0, 0, 0) := (lgs_6 805 (Nat.le_of_ble_eq_true rfl)).trans (by decide +kernel)
theorem lg_806 : mfetch 184 806 = some (806, .iload_n 3, 1, 0, 0, 0) := (lgs_6 806 (Nat.le_of_ble_eq_true rfl)).trans (by decide +kernel)
theorem lg_807 : mfetch 184 807 = some (807, .iconst 3, 1, 0, 0, 0) := (lgs_6 807 (Nat.le_of_ble_eq_true rfl)).trans (by decide +kernel)
theorem lg_808 : mfetch 184 808 = some (808, .iadd, 1, 0, 0, 0) := (lgs_6 808 (Nat.le_of_ble_eq_true rfl)).trans (by decide +kernel)
theorem lg_809 : mfetch 184 809 = some (809, .iaload, 1, 0, 0, 0) := (lgs_6 809 (Nat.le_of_ble_eq_true rfl)).trans (by decide +kernel)
theorem lg_810 : mfetch 184 810 = some (810, .invokevirtual 100, 3, 160, 0, 0) := (lgs_6 810 (Nat.le_of_ble_eq_true rfl)).trans (by decide +kernel)
theorem lg_813 : mfetch 184 813 = some (813, .pop, 1, 0, 0, 0) := (lgs_6 813 (Nat.le_of_ble_eq_true rfl)).trans (by decide +kernel)
theorem lg_814 : mfetch 184 814 = some (814, .goto 627, 3, 0, 0, 0) := (lgs_6 814 (Nat.le_of_ble_eq_true rfl)).trans (by decide +kernel)
theorem lg_817 : mfetch 184 817 = some (817, .aload_n 1, 1, 0, 0, 0) := (lgs_6 817 (Nat.le_of_ble_eq_true rfl)).trans (by decide +kernel)
theorem lg_818 : mfetch 184 818 = some (818, .aload_n 0, 1, 0, 0, 0) := (lgs_6 818 (Nat.le_of_ble_eq_true rfl)).trans (by decide +kernel)
theorem lg_819 : mfetch 184 819 = some (819, .iload_n 3, 1, 0, 0, 0) := (lgs_6 819 (Nat.le_of_ble_eq_true rfl)).trans (by decide +kernel)
theorem lg_820 : mfetch 184 820 = some (820, .iconst 1, 1, 0, 0, 0) := (lgs_6 820 (Nat.le_of_ble_eq_true rfl)).trans (by decide +kernel)
theorem lg_821 : mfetch 184 821 = some (821, .iadd, 1, 0, 0, 0) := (lgs_6 821 (Nat.le_of_ble_eq_true rfl)).trans (by decide +kernel)
theorem lg_822 : mfetch 184 822 = some (822, .iaload, 1, 0, 0, 0) := (lgs_6 822 (Nat.le_of_ble_eq_true rfl)).trans (by decide +kernel)
theorem lg_823 : mfetch 184 823 = some (823, .aload_n 0, 1, 0, 0, 0) := (lgs_6 823 (Nat.le_of_ble_eq_true rfl)).trans (by decide +kernel)
theorem lg_824 : mfetch 184 824 = some (824, .iload_n 3, 1, 0, 0, 0) := (lgs_6 824 (Nat.le_of_ble_eq_true rfl)).trans (by decide +kernel)
theorem lg_825 : mfetch 184 825 = some (825, .iconst 2, 1, 0, 0, 0) := (lgs_6 825 (Nat.le_of_ble_eq_true rfl)).trans (by decide +kernel)
theorem lg_826 : mfetch 184 826 = some (826, .iadd, 1, 0, 0, 0) := (lgs_6 826 (Nat.le_of_ble_eq_true rfl)).trans (by decide +kernel)
theorem lg_827 : mfetch 184 827 = some (827, .iaload, 1, 0, 0, 0) := (lgs_6 827 (Nat.le_of_ble_eq_true rfl)).trans (by decide +kernel)
theorem lg_828 : mfetch 184 828 = some (828, .invokevirtual 101, 3, 78, 0, 0) := (lgs_6 828 (Nat.le_of_ble_eq_true rfl)).trans (by decide +kernel)
theorem lg_831 : mfetch 184 831 = some (831, .pop, 1, 0, 0, 0) := (lgs_6 831 (Nat.le_of_ble_eq_true rfl)).trans (by decide +kernel)
theorem lg_832 : mfetch 184 832 = some (832, .aload_n 2, 1, 0, 0, 0) := (lgs_6 832 (Nat.le_of_ble_eq_true rfl)).trans (by decide +kernel)
theorem lg_833 : mfetch 184 833 = some (833, .aload_n 0, 1, 0, 0, 0) := (lgs_6 833 (Nat.le_of_ble_eq_true rfl)).trans (by decide +kernel)
theorem lg_834 : mfetch 184 834 = some (834, .iload_n 3, 1, 0, 0, 0) := (lgs_6 834 (Nat.le_of_ble_eq_true rfl)).trans (by decide +kernel)
theorem lg_835 : mfetch 184 835 = some (835, .iconst 1, 1, 0, 0, 0) := (lgs_6 835 (Nat.le_of_ble_eq_true rfl)).trans (by decide +kernel)
theorem lg_836 : mfetch 184 836 = some (836, .iadd, 1, 0, 0, 0) := (lgs_6 836 (Nat.le_of_ble_eq_true rfl)).trans (by decide +kernel)
theorem lg_837 : mfetch 184 837 = some (837, .iaload, 1, 0, 0, 0) := (lgs_6 837 (Nat.le_of_ble_eq_true rfl)).trans (by decide +kernel)
theorem lg_838 : mfetch 184 838 = some (838, .aload_n 0, 1, 0, 0, 0) := (lgs_6 838 (Nat.le_of_ble_eq_true rfl)).trans (by decide +kernel)
theorem lg_839 : mfetch 184 839 = some (839, .iload_n 3, 1, 0, 0, 0) := (lgs_6 839 (Nat.le_of_ble_eq_true rfl)).trans (by decide +kernel)
theorem lg_840 : mfetch 184 840 = some (840, .iconst 2, 1, 0, 0, 0) := (lgs_6 840 (Nat.le_of_ble_eq_true rfl)).trans (by decide +kernel)
theorem lg_841 : mfetch 184 841 = some (841, .iadd, 1, 0, 0, 0) := (lgs_6 841 (Nat.le_of_ble_eq_true rfl)).trans (by decide +kernel)
theorem lg_842 : mfetch 184 842 = some (842, .iaload, 1, 0, 0, 0) := (lgs_6 842 (Nat.le_of_ble_eq_true rfl)).trans (by decide +kernel)
theorem lg_843 : mfetch 184 843 = some (843, .invokevirtual 104, 3, 161, 0, 0) := (lgs_6 843 (Nat.le_of_ble_eq_true rfl)).trans (by decide +kernel)
theorem lg_846 : mfetch 184 846 = some (846, .pop, 1, 0, 0, 0) := (lgs_6 846 (Nat.le_of_ble_eq_true rfl)).trans (by decide +kernel)
theorem lg_847 : mfetch 184 847 = some (847, .goto 594, 3, 0, 0, 0) := (lgs_6 847 (Nat.le_of_ble_eq_true rfl)).trans (by decide +kernel)
theorem lg_850 : mfetch 184 850 = some (850, .aload_n 1, 1, 0, 0, 0) := (lgs_6 850 (Nat.le_of_ble_eq_true rfl)).trans (by decide +kernel)
theorem lg_851 : mfetch 184 851 = some (851, .aload_n 0, 1, 0, 0, 0) := (lgs_6 851 (Nat.le_of_ble_eq_true rfl)).trans (by decide +kernel)
theorem lg_852 : mfetch 184 852 = some (852, .iload_n 3, 1, 0, 0, 0) := (lgs_6 852 (Nat.le_of_ble_eq_true rfl)).trans (by decide +kernel)
theorem lg_853 : mfetch 184 853 = some (853, .iconst 1, 1, 0, 0, 0) := (lgs_6 853 (Nat.le_of_ble_eq_true rfl)).trans (by decide +kernel)
theorem lg_854 : mfetch 184 854 = some (854, .iadd, 1, 0, 0, 0) := (lgs_6 854 (Nat.le_of_ble_eq_true rfl)).trans (by decide +kernel)
theorem lg_855 : mfetch 184 855 = some (855, .iaload, 1, 0, 0, 0) := (lgs_6 855 (Nat.le_of_ble_eq_true rfl)).trans (by decide +kernel)
theorem lg_856 : mfetch 184 856 = some (856, .aload_n 0, 1, 0, 0, 0) := (lgs_6 856 (Nat.le_of_ble_eq_true rfl)).trans (by decide +kernel)
theorem lg_857 : mfetch 184 857 = some (857, .iload_n 3, 1, 0, 0, 0) := (lgs_6 857 (Nat.le_of_ble_eq_true rfl)).trans (by decide +kernel)
theorem lg_858 : mfetch 184 858 = some (858, .iconst 2, 1, 0, 0, 0) := (lgs_6 858 (Nat.le_of_ble_eq_true rfl)).trans (by decide +kernel)
theorem lg_859 : mfetch 184 859 = some (859, .iadd, 1, 0, 0, 0) := (lgs_6 859 (Nat.le_of_ble_eq_true rfl)).trans (by decide +kernel)
theorem lg_860 : mfetch 184 860 = some (860, .iaload, 1, 0, 0, 0) := (lgs_6 860 (Nat.le_of_ble_eq_true rfl)).trans (by decide +kernel)
theorem lg_861 : mfetch 184 861 = some (861, .invokevirtual 105, 3, 79, 0, 0) := (lgs_6 861 (Nat.le_of_ble_eq_true rfl)).trans (by decide +kernel)
theorem lg_864 : mfetch 184 864 = some (864, .pop, 1, 0, 0, 0) := (lgs_6 864 (Nat.le_of_ble_eq_true rfl)).trans (by decide +kernel)
theorem lg_865 : mfetch 184 865 = some (865, .aload_n 2, 1, 0, 0, 0) := (lgs_6 865 (Nat.le_of_ble_eq_true rfl)).trans (by decide +kernel)
theorem lg_866 : mfetch 184 866 = some (866, .aload_n 0, 1, 0, 0, 0) := (lgs_6 866 (Nat.le_of_ble_eq_true rfl)).trans (by decide +kernel)
theorem lg_867 : mfetch 184 867 = some (867, .iload_n 3, 1, 0, 0, 0) := (lgs_6 867 (Nat.le_of_ble_eq_true rfl)).trans (by decide +kernel)
theorem lg_868 : mfetch 184 868 = some (868, .iconst 1, 1, 0, 0, 0) := (lgs_6 868 (Nat.le_of_ble_eq_true rfl)).trans (by decide +kernel)
theorem lg_869 : mfetch 184 869 = some (869, .iadd, 1, 0, 0, 0) := (lgs_6 869 (Nat.le_of_ble_eq_true rfl)).trans (by decide +kernel)
theorem lg_870 : mfetch 184 870 = some (870, .iaload, 1, 0, 0, 0) := (lgs_6 870 (Nat.le_of_ble_eq_true rfl)).trans (by decide +kernel)
theorem lg_871 : mfetch 184 871 = some (871, .aload_n 0, 1, 0, 0, 0) := (lgs_6 871 (Nat.le_of_ble_eq_true rfl)).trans (by decide +kernel)
theorem lg_872 : mfetch 184 872 = some (872, .iload_n 3, 1, 0, 0, 0) := (lgs_6 872 (Nat.le_of_ble_eq_true rfl)).trans (by decide +kernel)
theorem lg_873 : mfetch 184 873 = some (873, .iconst 2, 1, 0, 0, 0) := (lgs_6 873 (Nat.le_of_ble_eq_true rfl)).trans (by decide +kernel)
theorem lg_874 : mfetch 184 874 = some (874, .iadd, 1, 0, 0, 0) := (lgs_6 874 (Nat.le_of_ble_eq_true rfl)).trans (by decide +kernel)
theorem lg_875 : mfetch 184 875 = some (875, .iaload, 1, 0, 0, 0) := (lgs_6 875 (Nat.le_of_ble_eq_true rfl)).trans (by decide +kernel)
theorem lg_876 : mfetch 184 876 = some (876, .invokevirtual 108, 3, 162, 0, 0) := (lgs_7 876 (Nat.le_of_ble_eq_true rfl)).trans (by decide +kernel)
theorem lg_879 : mfetch 184 879 = some (879, .pop, 1, 0, 0, 0) := (lgs_7 879 (Nat.le_of_ble_eq_true rfl)).trans (by decide +kernel)
theorem lg_880 : mfetch 184 880 = some (880, .goto 561, 3, 0, 0, 0) := (lgs_7 880 (Nat.le_of_ble_eq_true rfl)).trans (by decide +kernel)
theorem lg_883 : mfetch 184 883 = some (883, .aload_n 1, 1, 0, 0, 0) := (lgs_7 883 (Nat.le_of_ble_eq_true rfl)).trans (by decide +kernel)
theorem lg_884 : mfetch 184 884 = some (884, .aload_n 0, 1, 0, 0, 0) := (lgs_7 884 (Nat.le_of_ble_eq_true rfl)).trans (by decide +kernel)
theorem lg_885 : mfetch 184 885 = some (885, .iload_n 3, 1, 0, 0, 0) := (lgs_7 885 (Nat.le_of_ble_eq_true rfl)).trans (by decide +kernel)
theorem lg_886 : mfetch 184 886 = some (886, .iconst 1, 1, 0, 0, 0) := (lgs_7 886 (Nat.le_of_ble_eq_true rfl)).trans (by decide +kernel)
theorem lg_887 : mfetch 184 887 = some (887, .iadd, 1, 0, 0, 0) := (lgs_7 887 (Nat.le_of_ble_eq_true rfl)).trans (by decide +kernel)
theorem lg_888 : mfetch 184 888 = some (888, .iaload, 1, 0, 0, 0) := (lgs_7 888 (Nat.le_of_ble_eq_true rfl)).trans (by decide +kernel)
theorem lg_889 : mfetch 184 889 = some (889, .aload_n 0, 1, 0, 0, 0) := (lgs_7 889 (Nat.le_of_ble_eq_true rfl)).trans (by decide +kernel)
theorem lg_890 : mfetch 184 890 = some (890, .iload_n 3, 1, 0, 0, 0) := (lgs_7 890 (Nat.le_of_ble_eq_true rfl)).trans (by decide +kernel)
theorem lg_891 : mfetch 184 891 = some (891, .iconst 2, 1, 0, 0, 0) := (lgs_7 891 (Nat.le_of_ble_eq_true rfl)).trans (by decide +kernel)
theorem lg_892 : mfetch 184 892 = some (892, .iadd, 1, 0, 0, 0) := (lgs_7 892 (Nat.le_of_ble_eq_true rfl)).trans (by decide +kernel)
theorem lg_893 : mfetch 184 893 = some (893, .iaload, 1, 0, 0, 0) := (lgs_7 893 (Nat.le_of_ble_eq_true rfl)).trans (by decide +kernel)
theorem lg_894 : mfetch 184 894 = some (894, .aload_n 0, 1, 0, 0, 0) := (lgs_7 894 (Nat.le_of_ble_eq_true rfl)).trans (by decide +kernel)
theorem lg_895 : mfetch 184 895 = some (895, .iload_n 3, 1, 0, 0, 0) := (lgs_7 895 (Nat.le_of_ble_eq_true rfl)).trans (by decide +kernel)
theorem lg_896 : mfetch 184 896 = some (896, .iconst 3, 1, 0, 0, 0) := (lgs_7 896 (Nat.le_of_ble_eq_true rfl)).trans (by decide +kernel)
theorem lg_897 : mfetch 184 897 = some (897, .iadd, 1, 0, 0, 0) := (lgs_7 897 (Nat.le_of_ble_eq_true rfl)).trans (by decide +kernel)
theorem lg_898 : mfetch 184 898 = some (898, .iaload, 1, 0, 0, 0) := (lgs_7 898 (Nat.le_of_ble_eq_true rfl)).trans (by decide +kernel)
theorem lg_899 : mfetch 184 899 = some (899, .invokevirtual 109, 3, 80, 0, 0) := (lgs_7 899 (Nat.le_of_ble_eq_true rfl)).trans (by decide +kernel)
theorem lg_902 : mfetch 184 902 = some (902, .pop, 1, 0, 0, 0) := (lgs_7 902 (Nat.le_of_ble_eq_true rfl)).trans (by decide +kernel)
theorem lg_903 : mfetch 184 903 = some (903, .aload_n 2, 1, 0, 0, 0) := (lgs_7 903 (Nat.le_of_ble_eq_true rfl)).trans (by decide +kernel)
theorem lg_904 : mfetch 184 904 = some (904, .aload_n 0, 1, 0, 0, 0) := (lgs_7 904 (Nat.le_of_ble_eq_true rfl)).trans (by decide +kernel)
theorem lg_905 : mfetch 184 905 = some (905, .iload_n 3, 1, 0, 0, 0) := (lgs_7 905 (Nat.le_of_ble_eq_true rfl)).trans (by decide +kernel)
theorem lg_906 : mfetch 184 906 = some (906, .iconst 1, 1, 0, 0, 0) := (lgs_7 906 (Nat.le_of_ble_eq_true rfl)).trans (by decide +kernel)
theorem lg_907 : mfetch 184 907 = some (907, .iadd, 1, 0, 0, 0) := (lgs_7 907 (Nat.le_of_ble_eq_true rfl)).trans (by decide +kernel)
theorem lg_908 : mfetch 184 908 = some (908, .iaload, 1, 0, 0, 0) := (lgs_7 908 (Nat.le_of_ble_eq_true rfl)).trans (by decide +kernel)
theorem lg_909 : mfetch 184 909 = some (909, .aload_n 0, 1, 0, 0, 0) := (lgs_7 909 (Nat.le_of_ble_eq_true rfl)).trans (by decide +kernel)
theorem lg_910 : mfetch 184 910 = some (910, .iload_n 3, 1, 0, 0, 0) := (lgs_7 910 (Nat.le_of_ble_eq_true rfl)).trans (by decide +kernel)
theorem lg_911 : mfetch 184 911 = some (911, .iconst 2, 1, 0, 0, 0) := (lgs_7 911 (Nat.le_of_ble_eq_true rfl)).trans (by decide +kernel)
theorem lg_912 : mfetch 184 912 = some (912, .iadd, 1, 0, 0, 0) := (lgs_7 912 (Nat.le_of_ble_eq_true rfl)).trans (by decide +kernel)
theorem lg_913 : mfetch 184 913 = some (913, .iaload, 1, 0, 0, 0) := (lgs_7 913 (Nat.le_of_ble_eq_true rfl)).trans (by decide +kernel)
theorem lg_914 : mfetch 184 914 = some (914, .aload_n 0, 1, 0, 0, 0) := (lgs_7 914 (Nat.le_of_ble_eq_true rfl)).trans (by decide +kernel)
theorem lg_915 : mfetch 184 915 = some (915, .iload_n 3, 1, 0, 0, 0) := (lgs_7 915 (Nat.le_of_ble_eq_true rfl)).trans (by decide +kernel)
theorem lg_916 : mfetch 184 916 = some (916, .iconst 3, 1, 0, 0, 0) := (lgs_7 916 (Nat.le_of_ble_eq_true rfl)).trans (by decide +kernel)
theorem lg_917 : mfetch 184 917 = some (917, .iadd, 1, 0, 0, 0) := (lgs_7 917 (Nat.le_of_ble_eq_true rfl)).trans (by decide +kernel)
theorem lg_918 : mfetch 184 918 = some (918, .iaload, 1, 0, 0, 0) := (lgs_7 918 (Nat.le_of_ble_eq_true rfl)).trans (by decide +kernel)
theorem lg_919 : mfetch 184 919 = some (919, .invokevirtual 112, 3, 163, 0, 0) := (lgs_7 919 (Nat.le_of_ble_eq_true rfl)).trans (by decide +kernel)
theorem lg_922 : mfetch 184 922 = some (922, .pop, 1, 0, 0, 0) := (lgs_7 922 (Nat.le_of_ble_eq_true rfl)).trans (by decide +kernel)
theorem lg_923 : mfetch 184 923 = some (923, .goto 518, 3, 0, 0, 0) := (lgs_7 923 (Nat.le_of_ble_eq_true rfl)).trans (by decide +kernel)
theorem lg_926 : mfetch 184 926 = some (926, .aload_n 1, 1, 0, 0, 0) := (lgs_7 926 (Nat.le_of_ble_eq_true rfl)).trans (by decide +kernel)
theorem lg_927 : mfetch 184 927 = some (927, .aload_n 0, 1, 0, 0, 0) := (lgs_7 927 (Nat.le_of_ble_eq_true rfl)).trans (by decide +kernel)
theorem lg_928 : mfetch 184 928 = some (928, .iload_n 3, 1, 0, 0, 0) := (lgs_7 928 (Nat.le_of_ble_eq_true rfl)).trans (by decide +kernel)
theorem lg_929 : mfetch 184 929 = some (929, .iconst 1, 1, 0, 0, 0) := (lgs_7 929 (Nat.le_of_ble_eq_true rfl)).trans (by decide +kernel)
theorem lg_930 : mfetch 184 930 = some (930, .iadd, 1, 0, 0, 0) := (lgs_7 930 (Nat.le_of_ble_eq_true rfl)).trans (by decide +kernel)
theorem lg_931 : mfetch 184 931 = some (931, .iaload, 1, 0, 0, 0) := (lgs_7 931 (Nat.le_of_ble_eq_true rfl)).trans (by decide +kernel)
theorem lg_932 : mfetch 184 932 = some (932, .aload_n 0, 1, 0, 0, 0) := (lgs_7 932 (Nat.le_of_ble_eq_true rfl)).trans (by decide +kernel)
theorem lg_933 : mfetch 184 933 = some (933, .iload_n 3, 1, 0, 0, 0) := (lgs_7 933 (Nat.le_of_ble_eq_true rfl)).trans (by decide +kernel)
theorem lg_934 : mfetch 184 934 = some (934, .iconst 2, 1, 0, 0, 0) := (lgs_7 934 (Nat.le_of_ble_eq_true rfl)).trans (by decide +kernel)
theorem lg_935 : mfetch 184 935 = some (935, .iadd, 1, 0, 0, 0) := (lgs_7 935 (Nat.le_of_ble_eq_true rfl)).trans (by decide +kernel)
theorem lg_936 : mfetch 184 936 = some (936, .iaload, 1, 0, 0, 0) := (lgs_7 936 (Nat.le_of_ble_eq_true rfl)).trans (by decide +kernel)
theorem lg_937 : mfetch 184 937 = some (937, .aload_n 0, 1, 0, 0, 0) := (lgs_7 937 (Nat.le_of_ble_eq_true rfl)).trans (by decide +kernel)
theorem lg_938 : mfetch 184 938 = some (938, .iload_n 3, 1, 0, 0, 0) := (lgs_7 938 (Nat.le_of_ble_eq_true rfl)).trans (by decide +kernel)
theorem lg_939 : mfetch 184 939 = some (939, .iconst 3, 1, 0, 0, 0) := (lgs_7 939 (Nat.le_of_ble_eq_true rfl)).trans (by decide +kernel)
theorem lg_940 : mfetch 184 940 = some (940, .iadd, 1, 0, 0, 0) := (lgs_7 940 (Nat.le_of_ble_eq_true rfl)).trans (by decide +kernel)
theorem lg_941 : mfetch 184 941 = some (941, .iaload, 1, 0, 0, 0) := (lgs_7 941 (Nat.le_of_ble_eq_true rfl)).trans (by decide +kernel)
theorem lg_942 : mfetch 184 942 = some (942, .aload_n 0, 1, 0, 0, 0) := (lgs_7 942 (Nat.le_of_ble_eq_true rfl)).trans (by decide +kernel)
theorem lg_943 : mfetch 184 943 = some (943, .iload_n 3, 1, 0, 0, 0) := (lgs_7 943 (Nat.le_of_ble_eq_true rfl)).trans (by decide +kernel)
theorem lg_944 : mfetch 184 944 = some (944, .iconst 4, 1, 0, 0, 0) := (lgs_7 944 (Nat.le_of_ble_eq_true rfl)).trans (by decide +kernel)
theorem lg_945 : mfetch 184 945 = some (945, .iadd, 1, 0, 0, 0) := (lgs_7 945 (Nat.le_of_ble_eq_true rfl)).trans (by decide +kernel)
theorem lg_946 : mfetch 184 946 = some (946, .iaload, 1, 0, 0, 0) := (lgs_7 946 (Nat.le_of_ble_eq_true rfl)).trans (by decide +kernel)
theorem lg_947 : mfetch 184 947 = some (947, .aload_n 0, 1, 0, 0, 0) := (lgs_7 947 (Nat.le_of_ble_eq_true rfl)).trans (by decide +kernel)
theorem lg_948 : mfetch 184 948 = some (948, .iload_n 3, 1, 0, 0, 0) := (lgs_7 948 (Nat.le_of_ble_eq_true rfl)).trans (by decide +kernel)
theorem lg_949 : mfetch 184 949 = some (949, .iconst 5, 1, 0, 0, 0) := (lgs_7 949 (Nat.le_of_ble_eq_true rfl)).trans (by decide +kernel)
theorem lg_950 : mfetch 184 950 = some (950, .iadd, 1, 0, 0, 0) := (lgs_7 950 (Nat.le_of_ble_eq_true rfl)).trans (by decide +kernel)
theorem lg_951 : mfetch 184 951 = some (951, .iaload, 1, 0, 0, 0) := (lgs_7 951 (Nat.le_of_ble_eq_true rfl)).trans (by decide +kernel)
theorem lg_952 : mfetch 184 952 = some (952, .invokevirtual 113, 3, 81, 0, 0) := (lgs_7 952 (Nat.le_of_ble_eq_true rfl)).trans (by decide +kernel)
theorem lg_955 : mfetch 184 955 = some (955, .pop2, 1, 0, 0, 0) := (lgs_7 955 (Nat.le_of_ble_eq_true rfl)).trans (by decide +kernel)
theorem lg_956 : mfetch 184 956 = some (956, .aload_n 2, 1, 0, 0, 0) := (lgs_7 956 (Nat.le_of_ble_eq_true rfl)).trans (by decide +kernel)
theorem lg_957 : mfetch 184 957 = some (957, .aload_n 0, 1, 0, 0, 0) := (lgs_7 957 (Nat.le_of_ble_eq_true rfl)).trans (by decide +kernel)
theorem lg_958 : mfetch 184 958 = some (958, .iload_n 3, 1, 0, 0, 0) := (lgs_7 958 (Nat.le_of_ble_eq_true rfl)).trans (by decide +kernel)
theorem lg_959 : mfetch 184 959 = some (959, .iconst 1, 1, 0, 0, 0) := (lgs_7 959 (Nat.le_of_ble_eq_true rfl)).trans (by decide +kernel)
theorem lg_960 : mfetch 184 960 = some (960, .iadd, 1, 0, 0, 0) := (lgs_7 960 (Nat.le_of_ble_eq_true rfl)).trans (by decide +kernel)
theorem lg_961 : mfetch 184 961 = some (961, .iaload, 1, 0, 0, 0) := (lgs_7 961 (Nat.le_of_ble_eq_true rfl)).trans (by decide +kernel)
theorem lg_962 : mfetch 184 962 = some (962, .aload_n 0, 1, 0, 0, 0) := (lgs_7 962 (Nat.le_of_ble_eq_true rfl)).trans (by decide +kernel)
theorem lg_963 : mfetch 184 963 = some (963, .iload_n 3, 1, 0, 0, 0) := (lgs_7 963 (Nat.le_of_ble_eq_true rfl)).trans (by decide +kernel)
theorem lg_964 : mfetch 184 964 = some (964, .iconst 2, 1, 0, 0, 0) := (lgs_7 964 (Nat.le_of_ble_eq_true rfl)).trans (by decide +kernel)
theorem lg_965 : mfetch 184 965 = some (965, .iadd, 1, 0, 0, 0) := (lgs_7 965 (Nat.le_of_ble_eq_true rfl)).trans (by decide +kernel)
theorem lg_966 : mfetch 184 966 = some (966, .iaload, 1, 0, 0, 0) := (lgs_7 966 (Nat.le_of_ble_eq_true rfl)).trans (by decide +kernel)
theorem lg_967 : mfetch 184 967 = some (967, .aload_n 0, 1, 0, 0, 0) := (lgs_7 967 (Nat.le_of_ble_eq_true rfl)).trans (by decide +kernel)
theorem lg_968 : mfetch 184 968 = some (968, .iload_n 3, 1, 0, 0, 0) := (lgs_8 968 (Nat.le_of_ble_eq_true rfl)).trans (by decide +kernel)
theorem lg_969 : mfetch 184 969 = some (969, .iconst 3, 1, 0, 0, 0) := (lgs_8 969 (Nat.le_of_ble_eq_true rfl)).trans (by decide +kernel)
theorem lg_970 : mfetch 184 970 = some (970, .iadd, 1, 0, 0, 0) := (lgs_8 970 (Nat.le_of_ble_eq_true rfl)).trans (by decide +kernel)
theorem lg_971 : mfetch 184 971 = some (971, .iaload, 1, 0, 0, 0) := (lgs_8 971 (Nat.le_of_ble_eq_true rfl)).trans (by decide +kernel)
theorem lg_972 : mfetch 184 972 = some (972, .aload_n 0, 1, 0, 0, 0) := (lgs_8 972 (Nat.le_of_ble_eq_true rfl)).trans (by decide +kernel)
theorem lg_973 : mfetch 184 973 = some (973, .iload_n 3, 1, 0, 0, 0) := (lgs_8 973 (Nat.le_of_ble_eq_true rfl)).trans (by decide +kernel)
theorem lg_974 : mfetch 184 974 = some (974, .iconst 4, 1, 0, 0, 0) := (lgs_8 974 (Nat.le_of_ble_eq_true rfl)).trans (by decide +kernel)
theorem lg_975 : mfetch 184 975 = some (975, .iadd, 1, 0, 0, 0) := (lgs_8 975 (Nat.le_of_ble_eq_true rfl)).trans (by decide +kernel)
theorem lg_976 : mfetch 184 976 = some (976, .iaload, 1, 0, 0, 0) := (lgs_8 976 (Nat.le_of_ble_eq_true rfl)).trans (by decide +kernel)
theorem lg_977 : mfetch 184 977 = some (977, .aload_n 0, 1, 0, 0, 0) := (lgs_8 977 (Nat.le_of_ble_eq_true rfl)).trans (by decide +kernel)
theorem lg_978 : mfetch 184 978 = some (978, .iload_n 3, 1, 0, 0, 0) := (lgs_8 978 (Nat.le_of_ble_eq_true rfl)).trans (by decide +kernel)
theorem lg_979 : mfetch 184 979 = some (979, .iconst 5, 1, 0, 0, 0) := (lgs_8 979 (Nat.le_of_ble_eq_true rfl)).trans (by decide +kernel)
theorem lg_980 : mfetch 184 980 = some (980, .iadd, 1, 0, 0, 0) := (lgs_8 980 (Nat.le_of_ble_eq_true rfl)).trans (by decide +kernel)
theorem lg_981 : mfetch 184 981 = some (981, .iaload, 1, 0, 0, 0) := (lgs_8 981 (Nat.le_of_ble_eq_true rfl)).trans (by decide +kernel)
theorem lg_982 : mfetch 184 982 = some (982, .invokevirtual 117, 3, 166, 0, 0) := (lgs_8 982 (Nat.le_of_ble_eq_true rfl)).trans (by decide +kernel)
theorem lg_985 : mfetch 184 985 = some (985, .pop2, 1, 0, 0, 0) := (lgs_8 985 (Nat.le_of_ble_eq_true rfl)).trans (by decide +kernel)
theorem lg_986 : mfetch 184 986 = some (986, .goto 455, 3, 0, 0, 0) := (lgs_8 986 (Nat.le_of_ble_eq_true rfl)).trans (by decide +kernel)
theorem lg_989 : mfetch 184 989 = some (989, .aload_n 1, 1, 0, 0, 0) := (lgs_8 989 (Nat.le_of_ble_eq_true rfl)).trans (by decide +kernel)
theorem lg_990 : mfetch 184 990 = some (990, .aload_n 0, 1, 0, 0, 0) := (lgs_8 990 (Nat.le_of_ble_eq_true rfl)).trans (by decide +kernel)
theorem lg_991 : mfetch 184 991 = some (991, .iload_n 3, 1, 0, 0, 0) := (lgs_8 991 (Nat.le_of_ble_eq_true rfl)).trans (by decide +kernel)
theorem lg_992 : mfetch 184 992 = some (992, .iconst 1, 1, 0, 0, 0) := (lgs_8 992 (Nat.le_of_ble_eq_true rfl)).trans (by decide +kernel)
theorem lg_993 : mfetch 184 993 = some (993, .iadd, 1, 0, 0, 0) := (lgs_8 993 (Nat.le_of_ble_eq_true rfl)).trans (by decide +kernel)
theorem lg_994 : mfetch 184 994 = some (994, .iaload, 1, 0, 0, 0) := (lgs_8 994 (Nat.le_of_ble_eq_true rfl)).trans (by decide +kernel)
theorem lg_995 : mfetch 184 995 = some (995, .aload_n 0, 1, 0, 0, 0) := (lgs_8 995 (Nat.le_of_ble_eq_true rfl)).trans (by decide +kernel)
theorem lg_996 : mfetch 184 996 = some (996, .iload_n 3, 1, 0, 0, 0) := (lgs_8 996 (Nat.le_of_ble_eq_true rfl)).trans (by decide +kernel)
theorem lg_997 : mfetch 184 997 = some (997, .iconst 2, 1, 0, 0, 0) := (lgs_8 997 (Nat.le_of_ble_eq_true rfl)).trans (by decide +kernel)
theorem lg_998 : mfetch 184 998 = some (998, .iadd, 1, 0, 0, 0) := (lgs_8 998 (Nat.le_of_ble_eq_true rfl)).trans (by decide +kernel)
theorem lg_999 : mfetch 184 999 = some (999, .iaload, 1, 0, 0, 0) := (lgs_8 999 (Nat.le_of_ble_eq_true rfl)).trans (by decide +kernel)
theorem lg_1000 : mfetch 184 1000 = some (1000, .aload_n 0, 1, 0, 0, 0) := (lgs_8 1000 (Nat.le_of_ble_eq_true rfl)).trans (by decide +kernel)
theorem lg_1001 : mfetch 184 1001 = some (1001, .iload_n 3, 1, 0, 0, 0) := (lgs_8 1001 (Nat.le_of_ble_eq_true rfl)).trans (by decide +kernel)
theorem lg_1002 : mfetch 184 1002 = some (1002, .iconst 3, 1, 0, 0, 0) := (lgs_8 1002 (Nat.le_of_ble_eq_true rfl)).trans (by decide +kernel)
theorem lg_1003 : mfetch 184 1003 = some (1003, .iadd, 1, 0, 0, 0) := (lgs_8 1003 (Nat.le_of_ble_eq_true rfl)).trans (by decide +kernel)
theorem lg_1004 : mfetch 184 1004 = some (1004, .iaload, 1, 0, 0, 0) := (lgs_8 1004 (Nat.le_of_ble_eq_true rfl)).trans (by decide +kernel)
theorem lg_1005 : mfetch 184 1005 = some (1005, .invokevirtual 118, 3, 82, 0, 0) := (lgs_8 1005 (Nat.le_of_ble_eq_true rfl)).trans (by decide +kernel)
theorem lg_1008 : mfetch 184 1008 = some (1008, .pop2, 1, 0, 0, 0) := (lgs_8 1008 (Nat.le_of_ble_eq_true rfl)).trans (by decide +kernel)
theorem lg_1009 : mfetch 184 1009 = some (1009, .aload_n 2, 1, 0, 0, 0) := (lgs_8 1009 (Nat.le_of_ble_eq_true rfl)).trans (by decide +kernel)
theorem lg_1010 : mfetch 184 1010 = some (1010, .aload_n 0, 1, 0, 0, 0) := (lgs_8 1010 (Nat.le_of_ble_eq_true rfl)).trans (by decide +kernel)
theorem lg_1011 : mfetch 184 1011 = some (1011, .iload_n 3, 1, 0, 0, 0) := (lgs_8 1011 (Nat.le_of_ble_eq_true rfl)).trans (by decide +kernel)
theorem lg_1012 : mfetch 184 1012 = some (1012, .iconst 1, 1, 0, 0, 0) := (lgs_8 1012 (Nat.le_of_ble_eq_true rfl)).trans (by decide +kernel)
theorem lg_1013 : mfetch 184 1013 = some (1013, .iadd, 1, 0, 0, 0) := (lgs_8 1013 (Nat.le_of_ble_eq_true rfl)).trans (by decide +kernel)
theorem lg_1014 : mfetch 184 1014 = some (1014, .iaload, 1, 0, 0, 0) := (lgs_8 1014 (Nat.le_of_ble_eq_true rfl)).trans (by decide +kernel)
theorem lg_1015 : mfetch 184 1015 = some (1015, .aload_n 0, 1, 0, 0, 0) := (lgs_8 1015 (Nat.le_of_ble_eq_true rfl)).trans (by decide +kernel)
theorem lg_1016 : mfetch 184 1016 = some (1016, .iload_n 3, 1, 0, 0, 0) := (lgs_8 1016 (Nat.le_of_ble_eq_true rfl)).trans (by decide +kernel)
theorem lg_1017 : mfetch 184 1017 = some (1017, .iconst 2, 1, 0, 0, 0) := (lgs_8 1017 (Nat.le_of_ble_eq_true rfl)).trans (by decide +kernel)
theorem lg_1018 : mfetch 184 1018 = some (1018, .iadd, 1, 0, 0, 0) := (lgs_8 1018 (Nat.le_of_ble_eq_true rfl)).trans (by decide +kernel)
theorem lg_1019 : mfetch 184 1019 = some (1019, .iaload, 1, 0, 0, 0) := (lgs_8 1019 (Nat.le_of_ble_eq_true rfl)).trans (by decide +kernel)
theorem lg_1020 : mfetch 184 1020 = some (1020, .aload_n 0, 1, 0, 0, 0) := (lgs_8 1020 (Nat.le_of_ble_eq_true rfl)).trans (by decide +kernel)
theorem lg_1021 : mfetch 184 1021 = some (1021, .iload_n 3, 1, 0, 0, 0) := (lgs_8 1021 (Nat.le_of_ble_eq_true rfl)).trans (by decide +kernel)
theorem lg_1022 : mfetch 184 1022 = some (1022, .iconst 3, 1, 0, 0, 0) := (lgs_8 1022 (Nat.le_of_ble_eq_true rfl)).trans (by decide +kernel)
theorem lg_1023 : mfetch 184 1023 = some (1023, .iadd, 1, 0, 0, 0) := (lgs_8 1023 (Nat.le_of_ble_eq_true rfl)).trans (by decide +kernel)
theorem lg_1024 : mfetch 184 1024 = some (1024, .iaload, 1, 0, 0, 0) := (lgs_8 1024 (Nat.le_of_ble_eq_true rfl)).trans (by decide +kernel)
theorem lg_1025 : mfetch 184 1025 = some (1025, .invokevirtual 122, 3, 167, 0, 0) := (lgs_8 1025 (Nat.le_of_ble_eq_true rfl)).trans (by decide +kernel)
theorem lg_1028 : mfetch 184 1028 = some (1028, .pop2, 1, 0, 0, 0) := (lgs_8 1028 (Nat.le_of_ble_eq_true rfl)).trans (by decide +kernel)
theorem lg_1029 : mfetch 184 1029 = some (1029, .goto 412, 3, 0, 0, 0) := (lgs_8 1029 (Nat.le_of_ble_eq_true rfl)).trans (by decide +kernel)
theorem lg_1032 : mfetch 184 1032 = some (1032, .aload_n 1, 1, 0, 0, 0) := (lgs_8 1032 (Nat.le_of_ble_eq_true rfl)).trans (by decide +kernel)
theorem lg_1033 : mfetch 184 1033 = some (1033, .aload_n 0, 1, 0, 0, 0) := (lgs_8 1033 (Nat.le_of_ble_eq_true rfl)).trans (by decide +kernel)
theorem lg_1034 : mfetch 184 1034 = some (1034, .iload_n 3, 1, 0, 0, 0) := (lgs_8 1034 (Nat.le_of_ble_eq_true rfl)).trans (by decide +kernel)
theorem lg_1035 : mfetch 184 1035 = some (1035, .iconst 1, 1, 0, 0, 0) := (lgs_8 1035 (Nat.le_of_ble_eq_true rfl)).trans (by decide +kernel)
theorem lg_1036 : mfetch 184 1036 = some (1036, .iadd, 1, 0, 0, 0) := (lgs_8 1036 (Nat.le_of_ble_eq_true rfl)).trans (by decide +kernel)
theorem lg_1037 : mfetch 184 1037 = some (1037, .iaload, 1, 0, 0, 0) := (lgs_8 1037 (Nat.le_of_ble_eq_true rfl)).trans (by decide +kernel)
theorem lg_1038 : mfetch 184 1038 = some (1038, .aload_n 0, 1, 0, 0, 0) := (lgs_8 1038 (Nat.le_of_ble_eq_true rfl)).trans (by decide +kernel)
theorem lg_1039 : mfetch 184 1039 = some (1039, .iload_n 3, 1, 0, 0, 0) := (lgs_8 1039 (Nat.le_of_ble_eq_true rfl)).trans (by decide +kernel)
theorem lg_1040 : mfetch 184 1040 = some (1040, .iconst 2, 1, 0, 0, 0) := (lgs_8 1040 (Nat.le_of_ble_eq_true rfl)).trans (by decide +kernel)
theorem lg_1041 : mfetch 184 1041 = some (1041, .iadd, 1, 0, 0, 0) := (lgs_8 1041 (Nat.le_of_ble_eq_true rfl)).trans (by decide +kernel)
theorem lg_1042 : mfetch 184 1042 = some (1042, .iaload, 1, 0, 0, 0) := (lgs_8 1042 (Nat.le_of_ble_eq_true rfl)).trans (by decide +kernel)
theorem lg_1043 : mfetch 184 1043 = some (1043, .aload_n 0, 1, 0, 0, 0) := (lgs_8 1043 (Nat.le_of_ble_eq_true rfl)).trans (by decide +kernel)
theorem lg_1044 : mfetch 184 1044 = some (1044, .iload_n 3, 1, 0, 0, 0) := (lgs_8 1044 (Nat.le_of_ble_eq_true rfl)).trans (by decide +kernel)
theorem lg_1045 : mfetch 184 1045 = some (1045, .iconst 3, 1, 0, 0, 0) := (lgs_8 1045 (Nat.le_of_ble_eq_true rfl)).trans (by decide +kernel)
theorem lg_1046 : mfetch 184 1046 = some (1046, .iadd, 1, 0, 0, 0) := (lgs_8 1046 (Nat.le_of_ble_eq_true rfl)).trans (by decide +kernel)
theorem lg_1047 : mfetch 184 1047 = some (1047, .iaload, 1, 0, 0, 0) := (lgs_8 1047 (Nat.le_of_ble_eq_true rfl)).trans (by decide +kernel)
theorem lg_1048 : mfetch 184 1048 = some (1048, .invokevirtual 123, 3, 89, 0, 0) := (lgs_8 1048 (Nat.le_of_ble_eq_true rfl)).trans (by decide +kernel)
theorem lg_1051 : mfetch 184 1051 = some (1051, .pop, 1, 0, 0, 0) := (lgs_8 1051 (Nat.le_of_ble_eq_true rfl)).trans (by decide +kernel)
theorem lg_1052 : mfetch 184 1052 = some (1052, .aload_n 2, 1, 0, 0, 0) := (lgs_8 1052 (Nat.le_of_ble_eq_true rfl)).trans (by decide +kernel)
theorem lg_1053 : mfetch 184 1053 = some (1053, .aload_n 0, 1, 0, 0, 0) := (lgs_8 1053 (Nat.le_of_ble_eq_true rfl)).trans (by decide +kernel)
theorem lg_1054 : mfetch 184 1054 = some (1054, .iload_n 3, 1, 0, 0, 0) := (lgs_8 1054 (Nat.le_of_ble_eq_true rfl)).trans (by decide +kernel)
theorem lg_1055 : mfetch 184 1055 = some (1055, .iconst 1, 1, 0, 0, 0) := (lgs_8 1055 (Nat.le_of_ble_eq_true rfl)).trans (by decide +kernel)
theorem lg_1056 : mfetch 184 1056 = some (1056, .iadd, 1, 0, 0, 0) := (lgs_8 1056 (Nat.le_of_ble_eq_true rfl)).trans (by decide +kernel)
theorem lg_1057 : mfetch 184 1057 = some (1057, .iaload, 1, 0, 0, 0) := (lgs_8 1057 (Nat.le_of_ble_eq_true rfl)).trans (by decide +kernel)
theorem lg_1058 : mfetch 184 1058 = some (1058, .aload_n 0, 1, 0, 0, 0) := (lgs_8 1058 (Nat.le_of_ble_eq_true rfl)).trans (by decide +kernel)
theorem lg_1059 : mfetch 184 1059 = some (1059, .iload_n 3, 1, 0, 0, 0) := (lgs_8 1059 (Nat.le_of_ble_eq_true rfl)).trans (by decide +kernel)
theorem lg_1060 : mfetch 184 1060 = some (1060, .iconst 2, 1, 0, 0, 0) := (lgs_9 1060 (Nat.le_of_ble_eq_true rfl)).trans (by decide +kernel)
theorem lg_1061 : mfetch 184 1061 = some (1061, .iadd, 1, 0, 0, 0) := (lgs_9 1061 (Nat.le_of_ble_eq_true rfl)).trans (by decide +kernel)
theorem lg_1062 : mfetch 184 1062 = some (1062, .iaload, 1, 0, 0, 0) := (lgs_9 1062 (Nat.le_of_ble_eq_true rfl)).trans (by decide +kernel)
theorem lg_1063 : mfetch 184 1063 = some (1063, .aload_n 0, 1, 0, 0, 0) := (lgs_9 1063 (Nat.le_of_ble_eq_true rfl)).trans (by decide +kernel)
theorem lg_1064 : mfetch 184 1064 = some (1064, .iload_n 3, 1, 0, 0, 0) := (lgs_9 1064 (Nat.le_of_ble_eq_true rfl)).trans (by decide +kernel)
theorem lg_1065 : mfetch 184 1065 = some (1065, .iconst 3, 1, 0, 0, 0) := (lgs_9 1065 (Nat.le_of_ble_eq_true rfl)).trans (by decide +kernel)
theorem lg_1066 : mfetch 184 1066 = some (1066, .iadd, 1, 0, 0, 0) := (lgs_9 1066 (Nat.le_of_ble_eq_true rfl)).trans (by decide +kernel)
theorem lg_1067 : mfetch 184 1067 = some (1067, .iaload, 1, 0, 0, 0) := (lgs_9 1067 (Nat.le_of_ble_eq_true rfl)).trans (by decide +kernel)
theorem lg_1068 : mfetch 184 1068 = some (1068, .invokevirtual 126, 3, 168, 0, 0) := (lgs_9 1068 (Nat.le_of_ble_eq_true rfl)).trans (by decide +kernel)
theorem lg_1071 : mfetch 184 1071 = some (1071, .pop, 1, 0, 0, 0) := (lgs_9 1071 (Nat.le_of_ble_eq_true rfl)).trans (by decide +kernel)
theorem lg_1072 : mfetch 184 1072 = some (1072, .goto 369, 3, 0, 0, 0) := (lgs_9 1072 (Nat.le_of_ble_eq_true rfl)).trans (by decide +kernel)
theorem lg_1075 : mfetch 184 1075 = some (1075, .aload_n 1, 1, 0, 0, 0) := (lgs_9 1075 (Nat.le_of_ble_eq_true rfl)).trans (by decide +kernel)
theorem lg_1076 : mfetch 184 1076 = some (1076, .aload_n 0, 1, 0, 0, 0) := (lgs_9 1076 (Nat.le_of_ble_eq_true rfl)).trans (by decide +kernel)
theorem lg_1077 : mfetch 184 1077 = some (1077, .iload_n 3, 1, 0, 0, 0) := (lgs_9 1077 (Nat.le_of_ble_eq_true rfl)).trans (by decide +kernel)
theorem lg_1078 : mfetch 184 1078 = some (1078, .iconst 1, 1, 0, 0, 0) := (lgs_9 1078 (Nat.le_of_ble_eq_true rfl)).trans (by decide +kernel)
theorem lg_1079 : mfetch 184 1079 = some (1079, .iadd, 1, 0, 0, 0) := (lgs_9 1079 (Nat.le_of_ble_eq_true rfl)).trans (by decide +kernel)
theorem lg_1080 : mfetch 184 1080 = some (1080, .iaload, 1, 0, 0, 0) := (lgs_9 1080 (Nat.le_of_ble_eq_true rfl)).trans (by decide +kernel)
theorem lg_1081 : mfetch 184 1081 = some (1081, .invokevirtual 127, 3, 90, 0, 0) := (lgs_9 1081 (Nat.le_of_ble_eq_true rfl)).trans (by decide +kernel)
theorem lg_1084 : mfetch 184 1084 = some (1084, .pop, 1, 0, 0, 0) := (lgs_9 1084 (Nat.le_of_ble_eq_true rfl)).trans (by decide +kernel)
theorem lg_1085 : mfetch 184 1085 = some (1085, .aload_n 2, 1, 0, 0, 0) := (lgs_9 1085 (Nat.le_of_ble_eq_true rfl)).trans (by decide +kernel)
theorem lg_1086 : mfetch 184 1086 = some (1086, .aload_n 0, 1, 0, 0, 0) := (lgs_9 1086 (Nat.le_of_ble_eq_true rfl)).trans (by decide +kernel)
theorem lg_1087 : mfetch 184 1087 = some (1087, .iload_n 3, 1, 0, 0, 0) := (lgs_9 1087 (Nat.le_of_ble_eq_true rfl)).trans (by decide +kernel)
theorem lg_1088 : mfetch 184 1088 = some (1088, .iconst 1, 1, 0, 0, 0) := (lgs_9 1088 (Nat.le_of_ble_eq_true rfl)).trans (by decide +kernel)
theorem lg_1089 : mfetch 184 1089 = some (1089, .iadd, 1, 0, 0, 0) := (lgs_9 1089 (Nat.le_of_ble_eq_true rfl)).trans (by decide +kernel)
theorem lg_1090 : mfetch 184 1090 = some (1090, .iaload, 1, 0, 0, 0) := (lgs_9 1090 (Nat.le_of_ble_eq_true rfl)).trans (by decide +kernel)
theorem lg_1091 : mfetch 184 1091 = some (1091, .invokevirtual 130, 3, 169, 0, 0) := (lgs_9 1091 (Nat.le_of_ble_eq_true rfl)).trans (by decide +kernel)
theorem lg_1094 : mfetch 184 1094 = some (1094, .pop, 1, 0, 0, 0) := (lgs_9 1094 (Nat.le_of_ble_eq_true rfl)).trans (by decide +kernel)
theorem lg_1095 : mfetch 184 1095 = some (1095, .goto 346, 3, 0, 0, 0) := (lgs_9 1095 (Nat.le_of_ble_eq_true rfl)).trans (by decide +kernel)
theorem lg_1098 : mfetch 184 1098 = some (1098, .aload_n 1, 1, 0, 0, 0) := (lgs_9 1098 (Nat.le_of_ble_eq_true rfl)).trans (by decide +kernel)
theorem lg_1099 : mfetch 184 1099 = some (1099, .aload_n 0, 1, 0, 0, 0) := (lgs_9 1099 (Nat.le_of_ble_eq_true rfl)).trans (by decide +kernel)
theorem lg_1100 : mfetch 184 1100 = some (1100, .iload_n 3, 1, 0, 0, 0) := (lgs_9 1100 (Nat.le_of_ble_eq_true rfl)).trans (by decide +kernel)
theorem lg_1101 : mfetch 184 1101 = some (1101, .iconst 1, 1, 0, 0, 0) := (lgs_9 1101 (Nat.le_of_ble_eq_true rfl)).trans (by decide +kernel)
theorem lg_1102 : mfetch 184 1102 = some (1102, .iadd, 1, 0, 0, 0) := (lgs_9 1102 (Nat.le_of_ble_eq_true rfl)).trans (by decide +kernel)
theorem lg_1103 : mfetch 184 1103 = some (1103, .iaload, 1, 0, 0, 0) := (lgs_9 1103 (Nat.le_of_ble_eq_true rfl)).trans (by decide +kernel)
theorem lg_1104 : mfetch 184 1104 = some (1104, .invokevirtual 131, 3, 91, 0, 0) := (lgs_9 1104 (Nat.le_of_ble_eq_true rfl)).trans (by decide +kernel)
theorem lg_1107 : mfetch 184 1107 = some (1107, .pop, 1, 0, 0, 0) := (lgs_9 1107 (Nat.le_of_ble_eq_true rfl)).trans (by decide +kernel)
theorem lg_1108 : mfetch 184 1108 = some (1108, .aload_n 2, 1, 0, 0, 0) := (lgs_9 1108 (Nat.le_of_ble_eq_true rfl)).trans (by decide +kernel)
theorem lg_1109 : mfetch 184 1109 = some (1109, .aload_n 0, 1, 0, 0, 0) := (lgs_9 1109 (Nat.le_of_ble_eq_true rfl)).trans (by decide +kernel)
theorem lg_1110 : mfetch 184 1110 = some (1110, .iload_n 3, 1, 0, 0, 0) := (lgs_9 1110 (Nat.le_of_ble_eq_true rfl)).trans (by decide +kernel)
theorem lg_1111 : mfetch 184 1111 = some (1111, .iconst 1, 1, 0, 0, 0) := (lgs_9 1111 (Nat.le_of_ble_eq_true rfl)).trans (by decide +kernel)
theorem lg_1112 : mfetch 184 1112 = some (1112, .iadd, 1, 0, 0, 0) := (lgs_9 1112 (Nat.le_of_ble_eq_true rfl)).trans (by decide +kernel)
theorem lg_1113 : mfetch 184 1113 = some (1113, .iaload, 1, 0, 0, 0) := (lgs_9 1113 (Nat.le_of_ble_eq_true rfl)).trans (by decide +kernel)
theorem lg_1114 : mfetch 184 1114 = some (1114, .invokevirtual 134, 3, 172, 0, 0) := (lgs_9 1114 (Nat.le_of_ble_eq_true rfl)).trans (by decide +kernel)
theorem lg_1117 : mfetch 184 1117 = some (1117, .pop, 1, 0, 0, 0) := (lgs_9 1117 (Nat.le_of_ble_eq_true rfl)).trans (by decide +kernel)
theorem lg_1118 : mfetch 184 1118 = some (1118, .goto 323, 3, 0, 0, 0) := (lgs_9 1118 (Nat.le_of_ble_eq_true rfl)).trans (by decide +kernel)
theorem lg_1121 : mfetch 184 1121 = some (1121, .aload_n 1, 1, 0, 0, 0) := (lgs_9 1121 (Nat.le_of_ble_eq_true rfl)).trans (by decide +kernel)
theorem lg_1122 : mfetch 184 1122 = some (1122, .aload_n 0, 1, 0, 0, 0) := (lgs_9 1122 (Nat.le_of_ble_eq_true rfl)).trans (by decide +kernel)
theorem lg_1123 : mfetch 184 1123 = some (1123, .iload_n 3, 1, 0, 0, 0) := (lgs_9 1123 (Nat.le_of_ble_eq_true rfl)).trans (by decide +kernel)
theorem lg_1124 : mfetch 184 1124 = some (1124, .iconst 1, 1, 0, 0, 0) := (lgs_9 1124 (Nat.le_of_ble_eq_true rfl)).trans (by decide +kernel)
theorem lg_1125 : mfetch 184 1125 = some (1125, .iadd, 1, 0, 0, 0) := (lgs_9 1125 (Nat.le_of_ble_eq_true rfl)).trans (by decide +kernel)
theorem lg_1126 : mfetch 184 1126 = some (1126, .iaload, 1, 0, 0, 0) := (lgs_9 1126 (Nat.le_of_ble_eq_true rfl)).trans (by decide +kernel)
theorem lg_1127 : mfetch 184 1127 = some (1127, .invokevirtual 135, 3, 92, 0, 0) := (lgs_9 1127 (Nat.le_of_ble_eq_true rfl)).trans (by decide +kernel)
theorem lg_1130 : mfetch 184 1130 = some (1130, .aload_n 2, 1, 0, 0, 0) := (lgs_9 1130 (Nat.le_of_ble_eq_true rfl)).trans (by decide +kernel)
theorem lg_1131 : mfetch 184 1131 = some (1131, .aload_n 0, 1, 0, 0, 0) := (lgs_9 1131 (Nat.le_of_ble_eq_true rfl)).trans (by decide +kernel)
theorem lg_1132 : mfetch 184 1132 = some (1132, .iload_n 3, 1, 0, 0, 0) := (lgs_9 1132 (Nat.le_of_ble_eq_true rfl)).trans (by decide +kernel)
theorem lg_1133 : mfetch 184 1133 = some (1133, .iconst 1, 1, 0, 0, 0) := (lgs_9 1133 (Nat.le_of_ble_eq_true rfl)).trans (by decide +kernel)
theorem lg_1134 : mfetch 184 1134 = some (1134, .iadd, 1, 0, 0, 0) := (lgs_9 1134 (Nat.le_of_ble_eq_true rfl)).trans (by decide +kernel)
theorem lg_1135 : mfetch 184 1135 = some (1135, .iaload, 1, 0, 0, 0) := (lgs_9 1135 (Nat.le_of_ble_eq_true rfl)).trans (by decide +kernel)
theorem lg_1136 : mfetch 184 1136 = some (1136, .invokevirtual 138, 3, 173, 0, 0) := (lgs_9 1136 (Nat.le_of_ble_eq_true rfl)).trans (by decide +kernel)
theorem lg_1139 : mfetch 184 1139 = some (1139, .if_icmp .eq 302, 3, 0, 0, 0) := (lgs_9 1139 (Nat.le_of_ble_eq_true rfl)).trans (by decide +kernel)
theorem lg_1144 : mfetch 184 1144 = some (1144, .aload_n 1, 1, 0, 0, 0) := (lgs_9 1144 (Nat.le_of_ble_eq_true rfl)).trans (by decide +kernel)
theorem lg_1145 : mfetch 184 1145 = some (1145, .aload_n 0, 1, 0, 0, 0) := (lgs_9 1145 (Nat.le_of_ble_eq_true rfl)).trans (by decide +kernel)
theorem lg_1146 : mfetch 184 1146 = some (1146, .iload_n 3, 1, 0, 0, 0) := (lgs_9 1146 (Nat.le_of_ble_eq_true rfl)).trans (by decide +kernel)
theorem lg_1147 : mfetch 184 1147 = some (1147, .iconst 1, 1, 0, 0, 0) := (lgs_9 1147 (Nat.le_of_ble_eq_true rfl)).trans (by decide +kernel)
theorem lg_1148 : mfetch 184 1148 = some (1148, .iadd, 1, 0, 0, 0) := (lgs_9 1148 (Nat.le_of_ble_eq_true rfl)).trans (by decide +kernel)
theorem lg_1149 : mfetch 184 1149 = some (1149, .iaload, 1, 0, 0, 0) := (lgs_9 1149 (Nat.le_of_ble_eq_true rfl)).trans (by decide +kernel)
theorem lg_1150 : mfetch 184 1150 = some (1150, .aload_n 0, 1, 0, 0, 0) := (lgs_9 1150 (Nat.le_of_ble_eq_true rfl)).trans (by decide +kernel)
theorem lg_1151 : mfetch 184 1151 = some (1151, .iload_n 3, 1, 0, 0, 0) := (lgs_9 1151 (Nat.le_of_ble_eq_true rfl)).trans (by decide +kernel)
theorem lg_1152 : mfetch 184 1152 = some (1152, .iconst 2, 1, 0, 0, 0) := (lgs_9 1152 (Nat.le_of_ble_eq_true rfl)).trans (by decide +kernel)
theorem lg_1153 : mfetch 184 1153 = some (1153, .iadd, 1, 0, 0, 0) := (lgs_9 1153 (Nat.le_of_ble_eq_true rfl)).trans (by decide +kernel)
theorem lg_1154 : mfetch 184 1154 = some (1154, .iaload, 1, 0, 0, 0) := (lgs_9 1154 (Nat.le_of_ble_eq_true rfl)).trans (by decide +kernel)
theorem lg_1155 : mfetch 184 1155 = some (1155, .invokevirtual 139, 3, 94, 0, 0) := (lgs_9 1155 (Nat.le_of_ble_eq_true rfl)).trans (by decide +kernel)
theorem lg_1158 : mfetch 184 1158 = some (1158, .pop, 1, 0, 0, 0) := (lgs_9 1158 (Nat.le_of_ble_eq_true rfl)).trans (by decide +kernel)
theorem lg_1159 : mfetch 184 1159 = some (1159, .aload_n 2, 1, 0, 0, 0) := (lgs_9 1159 (Nat.le_of_ble_eq_true rfl)).trans (by decide +kernel)
theorem lg_1160 : mfetch 184 1160 = some (1160, .aload_n 0, 1, 0, 0, 0) := (lgs_9 1160 (Nat.le_of_ble_eq_true rfl)).trans (by decide +kernel)
theorem lg_1161 : mfetch 184 1161 = some (1161, .iload_n 3, 1, 0, 0, 0) := (lgs_9 1161 (Nat.le_of_ble_eq_true rfl)).trans (by decide +kernel)
theorem lg_1162 : mfetch 184 1162 = some (1162, .iconst 1, 1, 0, 0, 0) := (lgs_9 1162 (Nat.le_of_ble_eq_true rfl)).trans (by decide +kernel)
theorem lg_1163 : mfetch 184 1163 = some (1163, .iadd, 1, 0, 0, 0) := (lgs_9 1163 (Nat.le_of_ble_eq_true rfl)).trans (by decide +kernel)
theorem lg_1164 : mfetch 184 1164 = some (1164, .iaload, 1, 0, 0, 0) := (lgs_10 1164 (Nat.le_of_ble_eq_true rfl)).trans (by decide +kernel)
theorem lg_1165 : mfetch 184 1165 = some (1165, .aload_n 0, 1, 0, 0, 0) := (lgs_10 1165 (Nat.le_of_ble_eq_true rfl)).trans (by decide +kernel)
theorem lg_1166 : mfetch 184 1166 = some (1166, .iload_n 3, 1, 0, 0, 0) := (lgs_10 1166 (Nat.le_of_ble_eq_true rfl)).trans (by decide +kernel)
theorem lg_1167 : mfetch 184 1167 = some (1167, .iconst 2, 1, 0, 0, 0) := (lgs_10 1167 (Nat.le_of_ble_eq_true rfl)).trans (by decide +kernel)
theorem lg_1168 : mfetch 184 1168 = some (1168, .iadd, 1, 0, 0, 0) := (lgs_10 1168 (Nat.le_of_ble_eq_true rfl)).trans (by decide +kernel)
theorem lg_1169 : mfetch 184 1169 = some (1169, .iaload, 1, 0, 0, 0) := (lgs_10 1169 (Nat.le_of_ble_eq_true rfl)).trans (by decide +kernel)
theorem lg_1170 : mfetch 184 1170 = some (1170, .invokevirtual 142, 3, 175, 0, 0) := (lgs_10 1170 (Nat.le_of_ble_eq_true rfl)).trans (by decide +kernel)
theorem lg_1173 : mfetch 184 1173 = some (1173, .pop, 1, 0, 0, 0) := (lgs_10 1173 (Nat.le_of_ble_eq_true rfl)).trans (by decide +kernel)
theorem lg_1174 : mfetch 184 1174 = some (1174, .goto 267, 3, 0, 0, 0) := (lgs_10 1174 (Nat.le_of_ble_eq_true rfl)).trans (by decide +kernel)
theorem lg_1177 : mfetch 184 1177 = some (1177, .aload_n 1, 1, 0, 0, 0) := (lgs_10 1177 (Nat.le_of_ble_eq_true rfl)).trans (by decide +kernel)
theorem lg_1178 : mfetch 184 1178 = some (1178, .aload_n 0, 1, 0, 0, 0) := (lgs_10 1178 (Nat.le_of_ble_eq_true rfl)).trans (by decide +kernel)
theorem lg_1179 : mfetch 184 1179 = some (1179, .iload_n 3, 1, 0, 0, 0) := (lgs_10 1179 (Nat.le_of_ble_eq_true rfl)).trans (by decide +kernel)
theorem lg_1180 : mfetch 184 1180 = some (1180, .iconst 1, 1, 0, 0, 0) := (lgs_10 1180 (Nat.le_of_ble_eq_true rfl)).trans (by decide +kernel)
theorem lg_1181 : mfetch 184 1181 = some (1181, .iadd, 1, 0, 0, 0) := (lgs_10 1181 (Nat.le_of_ble_eq_true rfl)).trans (by decide +kernel)
theorem lg_1182 : mfetch 184 1182 = some (1182, .iaload, 1, 0, 0, 0) := (lgs_10 1182 (Nat.le_of_ble_eq_true rfl)).trans (by decide +kernel)
theorem lg_1183 : mfetch 184 1183 = some (1183, .aload_n 0, 1, 0, 0, 0) := (lgs_10 1183 (Nat.le_of_ble_eq_true rfl)).trans (by decide +kernel)
theorem lg_1184 : mfetch 184 1184 = some (1184, .iload_n 3, 1, 0, 0, 0) := (lgs_10 1184 (Nat.le_of_ble_eq_true rfl)).trans (by decide +kernel)
theorem lg_1185 : mfetch 184 1185 = some (1185, .iconst 2, 1, 0, 0, 0) := (lgs_10 1185 (Nat.le_of_ble_eq_true rfl)).trans (by decide +kernel)
theorem lg_1186 : mfetch 184 1186 = some (1186, .iadd, 1, 0, 0, 0) := (lgs_10 1186 (Nat.le_of_ble_eq_true rfl)).trans (by decide +kernel)
theorem lg_1187 : mfetch 184 1187 = some (1187, .iaload, 1, 0, 0, 0) := (lgs_10 1187 (Nat.le_of_ble_eq_true rfl)).trans (by decide +kernel)
theorem lg_1188 : mfetch 184 1188 = some (1188, .aload_n 0, 1, 0, 0, 0) := (lgs_10 1188 (Nat.le_of_ble_eq_true rfl)).trans (by decide +kernel)
theorem lg_1189 : mfetch 184 1189 = some (1189, .iload_n 3, 1, 0, 0, 0) := (lgs_10 1189 (Nat.le_of_ble_eq_true rfl)).trans (by decide +kernel)
theorem lg_1190 : mfetch 184 1190 = some (1190, .iconst 3, 1, 0, 0, 0) := (lgs_10 1190 (Nat.le_of_ble_eq_true rfl)).trans (by decide +kernel)
theorem lg_1191 : mfetch 184 1191 = some (1191, .iadd, 1, 0, 0, 0) := (lgs_10 1191 (Nat.le_of_ble_eq_true rfl)).trans (by decide +kernel)
theorem lg_1192 : mfetch 184 1192 = some (1192, .iaload, 1, 0, 0, 0) := (lgs_10 1192 (Nat.le_of_ble_eq_true rfl)).trans (by decide +kernel)
theorem lg_1193 : mfetch 184 1193 = some (1193, .invokevirtual 143, 3, 97, 0, 0) := (lgs_10 1193 (Nat.le_of_ble_eq_true rfl)).trans (by decide +kernel)
theorem lg_1196 : mfetch 184 1196 = some (1196, .pop, 1, 0, 0, 0) := (lgs_10 1196 (Nat.le_of_ble_eq_true rfl)).trans (by decide +kernel)
theorem lg_1197 : mfetch 184 1197 = some (1197, .aload_n 2, 1, 0, 0, 0) := (lgs_10 1197 (Nat.le_of_ble_eq_true rfl)).trans (by decide +kernel)
theorem lg_1198 : mfetch 184 1198 = some (1198, .aload_n 0, 1, 0, 0, 0) := (lgs_10 1198 (Nat.le_of_ble_eq_true rfl)).trans (by decide +kernel)
theorem lg_1199 : mfetch 184 1199 = some (1199, .iload_n 3, 1, 0, 0, 0) := (lgs_10 1199 (Nat.le_of_ble_eq_true rfl)).trans (by decide +kernel)
theorem lg_1200 : mfetch 184 1200 = some (1200, .iconst 1, 1, 0, 0, 0) := (lgs_10 1200 (Nat.le_of_ble_eq_true rfl)).trans (by decide +kernel)
theorem lg_1201 : mfetch 184 1201 = some (1201, .iadd, 1, 0, 0, 0) := (lgs_10 1201 (Nat.le_of_ble_eq_true rfl)).trans (by decide +kernel)
theorem lg_1202 : mfetch 184 1202 = some (1202, .iaload, 1, 0, 0, 0) := (lgs_10 1202 (Nat.le_of_ble_eq_true rfl)).trans (by decide +kernel)
theorem lg_1203 : mfetch 184 1203 = some (1203, .aload_n 0, 1, 0, 0, 0) := (lgs_10 1203 (Nat.le_of_ble_eq_true rfl)).trans (by decide +kernel)
theorem lg_1204 : mfetch 184 1204 = some (1204, .iload_n 3, 1, 0, 0, 0) := (lgs_10 1204 (Nat.le_of_ble_eq_true rfl)).trans (by decide +kernel)
theorem lg_1205 : mfetch 184 1205 = some (1205, .iconst 2, 1, 0, 0, 0) := (lgs_10 1205 (Nat.le_of_ble_eq_true rfl)).trans (by decide +kernel)
theorem lg_1206 : mfetch 184 1206 = some (1206, .iadd, 1, 0, 0, 0) := (lgs_10 1206 (Nat.le_of_ble_eq_true rfl)).trans (by decide +kernel)
theorem lg_1207 : mfetch 184 1207 = some (1207, .iaload, 1, 0, 0, 0) := (lgs_10 1207 (Nat.le_of_ble_eq_true rfl)).trans (by decide +kernel)
theorem lg_1208 : mfetch 184 1208 = some (1208, .aload_n 0, 1, 0, 0, 0) := (lgs_10 1208 (Nat.le_of_ble_eq_true rfl)).trans (by decide +kernel)
theorem lg_1209 : mfetch 184 1209 = some (1209, .iload_n 3, 1, 0, 0, 0) := (lgs_10 1209 (Nat.le_of_ble_eq_true rfl)).trans (by decide +kernel)
theorem lg_1210 : mfetch 184 1210 = some (1210, .iconst 3, 1, 0, 0, 0) := (lgs_10 1210 (Nat.le_of_ble_eq_true rfl)).trans (by decide +kernel)
theorem lg_1211 : mfetch 184 1211 = some (1211, .iadd, 1, 0, 0, 0) := (lgs_10 1211 (Nat.le_of_ble_eq_true rfl)).trans (by decide +kernel)
theorem lg_1212 : mfetch 184 1212 = some (1212, .iaload, 1, 0, 0, 0) := (lgs_10 1212 (Nat.le_of_ble_eq_true rfl)).trans (by decide +kernel)
theorem lg_1213 : mfetch 184 1213 = some (1213, .invokevirtual 146, 3, 176, 0, 0) := (lgs_10 1213 (Nat.le_of_ble_eq_true rfl)).trans (by decide +kernel)
theorem lg_1216 : mfetch 184 1216 = some (1216, .pop, 1, 0, 0, 0) := (lgs_10 1216 (Nat.le_of_ble_eq_true rfl)).trans (by decide +kernel)
theorem lg_1217 : mfetch 184 1217 = some (1217, .goto 224, 3, 0, 0, 0) := (lgs_10 1217 (Nat.le_of_ble_eq_true rfl)).trans (by decide +kernel)
theorem lg_1220 : mfetch 184 1220 = some (1220, .aload_n 1, 1, 0, 0, 0) := (lgs_10 1220 (Nat.le_of_ble_eq_true rfl)).trans (by decide +kernel)
theorem lg_1221 : mfetch 184 1221 = some (1221, .aload_n 0, 1, 0, 0, 0) := (lgs_10 1221 (Nat.le_of_ble_eq_true rfl)).trans (by decide +kernel)
theorem lg_1222 : mfetch 184 1222 = some (1222, .iload_n 3, 1, 0, 0, 0) := (lgs_10 1222 (Nat.le_of_ble_eq_true rfl)).trans (by decide +kernel)
theorem lg_1223 : mfetch 184 1223 = some (1223, .iconst 1, 1, 0, 0, 0) := (lgs_10 1223 (Nat.le_of_ble_eq_true rfl)).trans (by decide +kernel)
theorem lg_1224 : mfetch 184 1224 = some (1224, .iadd, 1, 0, 0, 0) := (lgs_10 1224 (Nat.le_of_ble_eq_true rfl)).trans (by decide +kernel)
theorem lg_1225 : mfetch 184 1225 = some (1225, .iaload, 1, 0, 0, 0) := (lgs_10 1225 (Nat.le_of_ble_eq_true rfl)).trans (by decide +kernel)
theorem lg_1226 : mfetch 184 1226 = some (1226, .invokevirtual 147, 3, 98, 0, 0) := (lgs_10 1226 (Nat.le_of_ble_eq_true rfl)).trans (by decide +kernel)
theorem lg_1229 : mfetch 184 1229 = some (1229, .pop, 1, 0, 0, 0) := (lgs_10 1229 (Nat.le_of_ble_eq_true rfl)).trans (by decide +kernel)
theorem lg_1230 : mfetch 184 1230 = some (1230, .aload_n 2, 1, 0, 0, 0) := (lgs_10 1230 (Nat.le_of_ble_eq_true rfl)).trans (by decide +kernel)
theorem lg_1231 : mfetch 184 1231 = some (1231, .aload_n 0, 1, 0, 0, 0) := (lgs_10 1231 (Nat.le_of_ble_eq_true rfl)).trans (by decide +kernel)
theorem lg_1232 : mfetch 184 1232 = some (1232, .iload_n 3, 1, 0, 0, 0) := (lgs_10 1232 (Nat.le_of_ble_eq_true rfl)).trans (by decide +kernel)
theorem lg_1233 : mfetch 184 1233 = some (1233, .iconst 1, 1, 0, 0, 0) := (lgs_10 1233 (Nat.le_of_ble_eq_true rfl)).trans (by decide +kernel)
theorem lg_1234 : mfetch 184 1234 = some (1234, .iadd, 1, 0, 0, 0) := (lgs_10 1234 (Nat.le_of_ble_eq_true rfl)).trans (by decide +kernel)
theorem lg_1235 : mfetch 184 1235 = some (1235, .iaload, 1, 0, 0, 0) := (lgs_10 1235 (Nat.le_of_ble_eq_true rfl)).trans (by decide +kernel)
theorem lg_1236 : mfetch 184 1236 = some (1236, .invokevirtual 150, 3, 177, 0, 0) := (lgs_10 1236 (Nat.le_of_ble_eq_true rfl)).trans (by decide +kernel)
theorem lg_1239 : mfetch 184 1239 = some (1239, .pop, 1, 0, 0, 0) := (lgs_10 1239 (Nat.le_of_ble_eq_true rfl)).trans (by decide +kernel)
theorem lg_1240 : mfetch 184 1240 = some (1240, .goto 201, 3, 0, 0, 0) := (lgs_10 1240 (Nat.le_of_ble_eq_true rfl)).trans (by decide +kernel)
theorem lg_1243 : mfetch 184 1243 = some (1243, .aload_n 1, 1, 0, 0, 0) := (lgs_10 1243 (Nat.le_of_ble_eq_true rfl)).trans (by decide +kernel)
theorem lg_1244 : mfetch 184 1244 = some (1244, .aload_n 0, 1, 0, 0, 0) := (lgs_10 1244 (Nat.le_of_ble_eq_true rfl)).trans (by decide +kernel)
theorem lg_1245 : mfetch 184 1245 = some (1245, .iload_n 3, 1, 0, 0, 0) := (lgs_10 1245 (Nat.le_of_ble_eq_true rfl)).trans (by decide +kernel)
theorem lg_1246 : mfetch 184 1246 = some (1246, .iconst 1, 1, 0, 0, 0) := (lgs_10 1246 (Nat.le_of_ble_eq_true rfl)).trans (by decide +kernel)
theorem lg_1247 : mfetch 184 1247 = some (1247, .iadd, 1, 0, 0, 0) := (lgs_10 1247 (Nat.le_of_ble_eq_true rfl)).trans (by decide +kernel)
theorem lg_1248 : mfetch 184 1248 = some (1248, .iaload, 1, 0, 0, 0) := (lgs_10 1248 (Nat.le_of_ble_eq_true rfl)).trans (by decide +kernel)
theorem lg_1249 : mfetch 184 1249 = some (1249, .invokevirtual 151, 3, 99, 0, 0) := (lgs_10 1249 (Nat.le_of_ble_eq_true rfl)).trans (by decide +kernel)
theorem lg_1252 : mfetch 184 1252 = some (1252, .pop, 1, 0, 0, 0) := (lgs_10 1252 (Nat.le_of_ble_eq_true rfl)).trans (by decide +kernel)
theorem lg_1253 : mfetch 184 1253 = some (1253, .aload_n 2, 1, 0, 0, 0) := (lgs_10 1253 (Nat.le_of_ble_eq_true rfl)).trans (by decide +kernel)
theorem lg_1254 : mfetch 184 1254 = some (1254, .aload_n 0, 1, 0, 0, 0) := (lgs_10 1254 (Nat.le_of_ble_eq_true rfl)).trans (by decide +kernel)
theorem lg_1255 : mfetch 184 1255 = some (1255, .iload_n 3, 1, 0, 0, 0) := (lgs_10 1255 (Nat.le_of_ble_eq_true rfl)).trans (by decide +kernel)
theorem lg_1256 : mfetch 184 1256 = some (1256, .iconst 1, 1, 0, 0, 0) := (lgs_10 1256 (Nat.le_of_ble_eq_true rfl)).trans (by decide +kernel)
theorem lg_1257 : mfetch 184 1257 = some (1257, .iadd, 1, 0, 0, 0) := (lgs_10 1257 (Nat.le_of_ble_eq_true rfl)).trans (by decide +kernel)
theorem lg_1258 : mfetch 184 1258 = some (1258, .iaload, 1, 0, 0, 0) := (lgs_10 1258 (Nat.le_of_ble_eq_true rfl)).trans (by decide +kernel)
theorem lg_1259 : mfetch 184 1259 = some (1259, .invokevirtual 154, 3, 178, 0, 0) := (lgs_10 1259 (Nat.le_of_ble_eq_true rfl)).trans (by decide +kernel)
theorem lg_1262 : mfetch 184 1262 = some (1262, .pop, 1, 0, 0, 0) := (lgs_10 1262 (Nat.le_of_ble_eq_true rfl)).trans (by decide +kernel)
theorem lg_1263 : mfetch 184 1263 = some (1263, .goto 178, 3, 0, 0, 0) := (lgs_10 1263 (Nat.le_of_ble_eq_true rfl)).trans (by decide +kernel)
theorem lg_1266 : mfetch 184 1266 = some (1266, .aload_n 1, 1, 0, 0, 0) := (lgs_11 1266 (Nat.le_of_ble_eq_true rfl)).trans (by decide +kernel)
theorem lg_1267 : mfetch 184 1267 = some (1267, .aload_n 0, 1, 0, 0, 0) := (lgs_11 1267 (Nat.le_of_ble_eq_true rfl)).trans (by decide +kernel)
theorem lg_1268 : mfetch 184 1268 = some (1268, .iload_n 3, 1, 0, 0, 0) := (lgs_11 1268 (Nat.le_of_ble_eq_true rfl)).trans (by decide +kernel)
theorem lg_1269 : mfetch 184 1269 = some (1269, .iconst 1, 1, 0, 0, 0) := (lgs_11 1269 (Nat.le_of_ble_eq_true rfl)).trans (by decide +kernel)
theorem lg_1270 : mfetch 184 1270 = some (1270, .iadd, 1, 0, 0, 0) := (lgs_11 1270 (Nat.le_of_ble_eq_true rfl)).trans (by decide +kernel)
theorem lg_1271 : mfetch 184 1271 = some (1271, .iaload, 1, 0, 0, 0) := (lgs_11 1271 (Nat.le_of_ble_eq_true rfl)).trans (by decide +kernel)
theorem lg_1272 : mfetch 184 1272 = some (1272, .aload_n 0, 1, 0, 0, 0) := (lgs_11 1272 (Nat.le_of_ble_eq_true rfl)).trans (by decide +kernel)
theorem lg_1273 : mfetch 184 1273 = some (1273, .iload_n 3, 1, 0, 0, 0) := (lgs_11 1273 (Nat.le_of_ble_eq_true rfl)).trans (by decide +kernel)
theorem lg_1274 : mfetch 184 1274 = some (1274, .iconst 2, 1, 0, 0, 0) := (lgs_11 1274 (Nat.le_of_ble_eq_true rfl)).trans (by decide +kernel)
theorem lg_1275 : mfetch 184 1275 = some (1275, .iadd, 1, 0, 0, 0) := (lgs_11 1275 (Nat.le_of_ble_eq_true rfl)).trans (by decide +kernel)
theorem lg_1276 : mfetch 184 1276 = some (1276, .iaload, 1, 0, 0, 0) := (lgs_11 1276 (Nat.le_of_ble_eq_true rfl)).trans (by decide +kernel)
theorem lg_1277 : mfetch 184 1277 = some (1277, .aload_n 0, 1, 0, 0, 0) := (lgs_11 1277 (Nat.le_of_ble_eq_true rfl)).trans (by decide +kernel)
theorem lg_1278 : mfetch 184 1278 = some (1278, .iload_n 3, 1, 0, 0, 0) := (lgs_11 1278 (Nat.le_of_ble_eq_true rfl)).trans (by decide +kernel)
theorem lg_1279 : mfetch 184 1279 = some (1279, .iconst 3, 1, 0, 0, 0) := (lgs_11 1279 (Nat.le_of_ble_eq_true rfl)).trans (by decide +kernel)
theorem lg_1280 : mfetch 184 1280 = some (1280, .iadd, 1, 0, 0, 0) := (lgs_11 1280 (Nat.le_of_ble_eq_true rfl)).trans (by decide +kernel)
theorem lg_1281 : mfetch 184 1281 = some (1281, .iaload, 1, 0, 0, 0) := (lgs_11 1281 (Nat.le_of_ble_eq_true rfl)).trans (by decide +kernel)
theorem lg_1282 : mfetch 184 1282 = some (1282, .invokevirtual 155, 3, 100, 0, 0) := (lgs_11 1282 (Nat.le_of_ble_eq_true rfl)).trans (by decide +kernel)
theorem lg_1285 : mfetch 184 1285 = some (1285, .pop, 1, 0, 0, 0) := (lgs_11 1285 (Nat.le_of_ble_eq_true rfl)).trans (by decide +kernel)
theorem lg_1286 : mfetch 184 1286 = some (1286, .aload_n 2, 1, 0, 0, 0) := (lgs_11 1286 (Nat.le_of_ble_eq_true rfl)).trans (by decide +kernel)
theorem lg_1287 : mfetch 184 1287 = some (1287, .aload_n 0, 1, 0, 0, 0) := (lgs_11 1287 (Nat.le_of_ble_eq_true rfl)).trans (by decide +kernel)
theorem lg_1288 : mfetch 184 1288 = some (1288, .iload_n 3, 1, 0, 0, 0) := (lgs_11 1288 (Nat.le_of_ble_eq_true rfl)).trans (by decide +kernel)
theorem lg_1289 : mfetch 184 1289 = some (1289, .iconst 1, 1, 0, 0, 0) := (lgs_11 1289 (Nat.le_of_ble_eq_true rfl)).trans (by decide +kernel)
theorem lg_1290 : mfetch 184 1290 = some (1290, .iadd, 1, 0, 0, 0) := (lgs_11 1290 (Nat.le_of_ble_eq_true rfl)).trans (by decide +kernel)
theorem lg_1291 : mfetch 184 1291 = some (1291, .iaload, 1, 0, 0, 0) := (lgs_11 1291 (Nat.le_of_ble_eq_true rfl)).trans (by decide +kernel)
theorem lg_1292 : mfetch 184 1292 = some (1292, .aload_n 0, 1, 0, 0, 0) := (lgs_11 1292 (Nat.le_of_ble_eq_true rfl)).trans (by decide +kernel)
theorem lg_1293 : mfetch 184 1293 = some (1293, .iload_n 3, 1, 0, 0, 0) := (lgs_11 1293 (Nat.le_of_ble_eq_true rfl)).trans (by decide +kernel)
theorem lg_1294 : mfetch 184 1294 = some (1294, .iconst 2, 1, 0, 0, 0) := (lgs_11 1294 (Nat.le_of_ble_eq_true rfl)).trans (by decide +kernel)
theorem lg_1295 : mfetch 184 1295 = some (1295, .iadd, 1, 0, 0, 0) := (lgs_11 1295 (Nat.le_of_ble_eq_true rfl)).trans (by decide +kernel)
theorem lg_1296 : mfetch 184 1296 = some (1296, .iaload, 1, 0, 0, 0) := (lgs_11 1296 (Nat.le_of_ble_eq_true rfl)).trans (by decide +kernel)
theorem lg_1297 : mfetch 184 1297 = some (1297, .aload_n 0, 1, 0, 0, 0) := (lgs_11 1297 (Nat.le_of_ble_eq_true rfl)).trans (by decide +kernel)
theorem lg_1298 : mfetch 184 1298 = some (1298, .iload_n 3, 1, 0, 0, 0) := (lgs_11 1298 (Nat.le_of_ble_eq_true rfl)).trans (by decide +kernel)
theorem lg_1299 : mfetch 184 1299 = some (1299, .iconst 3, 1, 0, 0, 0) := (lgs_11 1299 (Nat.le_of_ble_eq_true rfl)).trans (by decide +kernel)
theorem lg_1300 : mfetch 184 1300 = some (1300, .iadd, 1, 0, 0, 0) := (lgs_11 1300 (Nat.le_of_ble_eq_true rfl)).trans (by decide +kernel)
theorem lg_1301 : mfetch 184 1301 = some (1301, .iaload, 1, 0, 0, 0) := (lgs_11 1301 (Nat.le_of_ble_eq_true rfl)).trans (by decide +kernel)
theorem lg_1302 : mfetch 184 1302 = some (1302, .invokevirtual 158, 3, 179, 0, 0) := (lgs_11 1302 (Nat.le_of_ble_eq_true rfl)).trans (by decide +kernel)
theorem lg_1305 : mfetch 184 1305 = some (1305, .pop, 1, 0, 0, 0) := (lgs_11 1305 (Nat.le_of_ble_eq_true rfl)).trans (by decide +kernel)
theorem lg_1306 : mfetch 184 1306 = some (1306, .goto 135, 3, 0, 0, 0) := (lgs_11 1306 (Nat.le_of_ble_eq_true rfl)).trans (by decide +kernel)
theorem lg_1309 : mfetch 184 1309 = some (1309, .aload_n 1, 1, 0, 0, 0) := (lgs_11 1309 (Nat.le_of_ble_eq_true rfl)).trans (by decide +kernel)
theorem lg_1310 : mfetch 184 1310 = some (1310, .aload_n 0, 1, 0, 0, 0) := (lgs_11 1310 (Nat.le_of_ble_eq_true rfl)).trans (by decide +kernel)
theorem lg_1311 : mfetch 184 1311 = some (1311, .iload_n 3, 1, 0, 0, 0) := (lgs_11 1311 (Nat.le_of_ble_eq_true rfl)).trans (by decide +kernel)
theorem lg_1312 : mfetch 184 1312 = some (1312, .iconst 1, 1, 0, 0, 0) := (lgs_11 1312 (Nat.le_of_ble_eq_true rfl)).trans (by decide +kernel)
theorem lg_1313 : mfetch 184 1313 = some (1313, .iadd, 1, 0, 0, 0) := (lgs_11 1313 (Nat.le_of_ble_eq_true rfl)).trans (by decide +kernel)
theorem lg_1314 : mfetch 184 1314 = some (1314, .iaload, 1, 0, 0, 0) := (lgs_11 1314 (Nat.le_of_ble_eq_true rfl)).trans (by decide +kernel)
theorem lg_1315 : mfetch 184 1315 = some (1315, .aload_n 0, 1, 0, 0, 0) := (lgs_11 1315 (Nat.le_of_ble_eq_true rfl)).trans (by decide +kernel)
theorem lg_1316 : mfetch 184 1316 = some (1316, .iload_n 3, 1, 0, 0, 0) := (lgs_11 1316 (Nat.le_of_ble_eq_true rfl)).trans (by decide +kernel)
theorem lg_1317 : mfetch 184 1317 = some (1317, .iconst 2, 1, 0, 0, 0) := (lgs_11 1317 (Nat.le_of_ble_eq_true rfl)).trans (by decide +kernel)
theorem lg_1318 : mfetch 184 1318 = some (1318, .iadd, 1, 0, 0, 0) := (lgs_11 1318 (Nat.le_of_ble_eq_true rfl)).trans (by decide +kernel)
theorem lg_1319 : mfetch 184 1319 = some (1319, .iaload, 1, 0, 0, 0) := (lgs_11 1319 (Nat.le_of_ble_eq_true rfl)).trans (by decide +kernel)
theorem lg_1320 : mfetch 184 1320 = some (1320, .aload_n 0, 1, 0, 0, 0) := (lgs_11 1320 (Nat.le_of_ble_eq_true rfl)).trans (by decide +kernel)
theorem lg_1321 : mfetch 184 1321 = some (1321, .iload_n 3, 1, 0, 0, 0) := (lgs_11 1321 (Nat.le_of_ble_eq_true rfl)).trans (by decide +kernel)
theorem lg_1322 : mfetch 184 1322 = some (1322, .iconst 3, 1, 0, 0, 0) := (lgs_11 1322 (Nat.le_of_ble_eq_true rfl)).trans (by decide +kernel)
theorem lg_1323 : mfetch 184 1323 = some (1323, .iadd, 1, 0, 0, 0) := (lgs_11 1323 (Nat.le_of_ble_eq_true rfl)).trans (by decide +kernel)
theorem lg_1324 : mfetch 184 1324 = some (1324, .iaload, 1, 0, 0, 0) := (lgs_11 1324 (Nat.le_of_ble_eq_true rfl)).trans (by decide +kernel)
theorem lg_1325 : mfetch 184 1325 = some (1325, .invokevirtual 159, 3, 101, 0, 0) := (lgs_11 1325 (Nat.le_of_ble_eq_true rfl)).trans (by decide +kernel)
theorem lg_1328 : mfetch 184 1328 = some (1328, .pop, 1, 0, 0, 0) := (lgs_11 1328 (Nat.le_of_ble_eq_true rfl)).trans (by decide +kernel)
theorem lg_1329 : mfetch 184 1329 = some (1329, .aload_n 2, 1, 0, 0, 0) := (lgs_11 1329 (Nat.le_of_ble_eq_true rfl)).trans (by decide +kernel)
theorem lg_1330 : mfetch 184 1330 = some (1330, .aload_n 0, 1, 0, 0, 0) := (lgs_11 1330 (Nat.le_of_ble_eq_true rfl)).trans (by decide +kernel)
theorem lg_1331 : mfetch 184 1331 = some (1331, .iload_n 3, 1, 0, 0, 0) := (lgs_11 1331 (Nat.le_of_ble_eq_true rfl)).trans (by decide +kernel)
theorem lg_1332 : mfetch 184 1332 = some (1332, .iconst 1, 1, 0, 0, 0) := (lgs_11 1332 (Nat.le_of_ble_eq_true rfl)).trans (by decide +kernel)
theorem lg_1333 : mfetch 184 1333 = some (1333, .iadd, 1, 0, 0, 0) := (lgs_11 1333 (Nat.le_of_ble_eq_true rfl)).trans (by decide +kernel)
theorem lg_1334 : mfetch 184 1334 = some (1334, .iaload, 1, 0, 0, 0) := (lgs_11 1334 (Nat.le_of_ble_eq_true rfl)).trans (by decide +kernel)
theorem lg_1335 : mfetch 184 1335 = some (1335, .aload_n 0, 1, 0, 0, 0) := (lgs_11 1335 (Nat.le_of_ble_eq_true rfl)).trans (by decide +kernel)
theorem lg_1336 : mfetch 184 1336 = some (1336, .iload_n 3, 1, 0, 0, 0) := (lgs_11 1336 (Nat.le_of_ble_eq_true rfl)).trans (by decide +kernel)
theorem lg_1337 : mfetch 184 1337 = some (1337, .iconst 2, 1, 0, 0, 0) := (lgs_11 1337 (Nat.le_of_ble_eq_true rfl)).trans (by decide +kernel)
theorem lg_1338 : mfetch 184 1338 = some (1338, .iadd, 1, 0, 0, 0) := (lgs_11 1338 (Nat.le_of_ble_eq_true rfl)).trans (by decide +kernel)
theorem lg_1339 : mfetch 184 1339 = some (1339, .iaload, 1, 0, 0, 0) := (lgs_11 1339 (Nat.le_of_ble_eq_true rfl)).trans (by decide +kernel)
theorem lg_1340 : mfetch 184 1340 = some (1340, .aload_n 0, 1, 0, 0, 0) := (lgs_11 1340 (Nat.le_of_ble_eq_true rfl)).trans (by decide +kernel)
theorem lg_1341 : mfetch 184 1341 = some (1341, .iload_n 3, 1, 0, 0, 0) := (lgs_11 1341 (Nat.le_of_ble_eq_true rfl)).trans (by decide +kernel)
theorem lg_1342 : mfetch 184 1342 = some (1342, .iconst 3, 1, 0, 0, 0) := (lgs_11 1342 (Nat.le_of_ble_eq_true rfl)).trans (by decide +kernel)
theorem lg_1343 : mfetch 184 1343 = some (1343, .iadd, 1, 0, 0, 0) := (lgs_11 1343 (Nat.le_of_ble_eq_true rfl)).trans (by decide +kernel)
theorem lg_1344 : mfetch 184 1344 = some (1344, .iaload, 1, 0, 0, 0) := (lgs_11 1344 (Nat.le_of_ble_eq_true rfl)).trans (by decide +kernel)
theorem lg_1345 : mfetch 184 1345 = some (1345, .invokevirtual 162, 3, 180, 0, 0) := (lgs_11 1345 (Nat.le_of_ble_eq_true rfl)).trans (by decide +kernel)
theorem lg_1348 : mfetch 184 1348 = some (1348, .pop, 1, 0, 0, 0) := (lgs_11 1348 (Nat.le_of_ble_eq_true rfl)).trans (by decide +kernel)
theorem lg_1349 : mfetch 184 1349 = some (1349, .goto 92, 3, 0, 0, 0) := (lgs_11 1349 (Nat.le_of_ble_eq_true rfl)).trans (by decide +kernel)
theorem lg_1352 : mfetch 184 1352 = some (1352, .aload_n 1, 1, 0, 0, 0) := (lgs_11 1352 (Nat.le_of_ble_eq_true rfl)).trans (by decide +kernel)
theorem lg_1353 : mfetch 184 1353 = some (1353, .aload_n 0, 1, 0, 0, 0) := (lgs_11 1353 (Nat.le_of_ble_eq_true rfl)).trans (by decide +kernel)
theorem lg_1354 : mfetch 184 1354 = some (1354, .iload_n 3, 1, 0, 0, 0) := (lgs_11 1354 (Nat.le_of_ble_eq_true rfl)).trans (by decide +kernel)
theorem lg_1355 : mfetch 184 1355 = some (1355, .iconst 1, 1, 0, 0, 0) := (lgs_11 1355 (Nat.le_of_ble_eq_true rfl)).trans (by decide +kernel)
theorem lg_1356 : mfetch 184 1356 = some (1356, .iadd, 1, 0, 0, 0) := (lgs_11 1356 (Nat.le_of_ble_eq_true rfl)).trans (by decide +kernel)
theorem lg_1357 : mfetch 184 1357 = some (1357, .iaload, 1, 0, 0, 0) := (lgs_11 1357 (Nat.le_of_ble_eq_true rfl)).trans (by decide +kernel)
theorem lg_1358 : mfetch 184 1358 = some (1358, .aload_n 0, 1, 0, 0, 0) := (lgs_12 1358 (Nat.le_of_ble_eq_true rfl)).trans (by decide +kernel)
theorem lg_1359 : mfetch 184 1359 = some (1359, .iload_n 3, 1, 0, 0, 0) := (lgs_12 1359 (Nat.le_of_ble_eq_true rfl)).trans (by decide +kernel)
theorem lg_1360 : mfetch 184 1360 = some (1360, .iconst 2, 1, 0, 0, 0) := (lgs_12 1360 (Nat.le_of_ble_eq_true rfl)).trans (by decide +kernel)
theorem lg_1361 : mfetch 184 1361 = some (1361, .iadd, 1, 0, 0, 0) := (lgs_12 1361 (Nat.le_of_ble_eq_true rfl)).trans (by decide +kernel)
theorem lg_1362 : mfetch 184 1362 = some (1362, .iaload, 1, 0, 0, 0) := (lgs_12 1362 (Nat.le_of_ble_eq_true rfl)).trans (by decide +kernel)
theorem lg_1363 : mfetch 184 1363 = some (1363, .aload_n 0, 1, 0, 0, 0) := (lgs_12 1363 (Nat.le_of_ble_eq_true rfl)).trans (by decide +kernel)
theorem lg_1364 : mfetch 184 1364 = some (1364, .iload_n 3, 1, 0, 0, 0) := (lgs_12 1364 (Nat.le_of_ble_eq_true rfl)).trans (by decide +kernel)
theorem lg_1365 : mfetch 184 1365 = some (1365, .iconst 3, 1, 0, 0, 0) := (lgs_12 1365 (Nat.le_of_ble_eq_true rfl)).trans (by decide +kernel)
theorem lg_1366 : mfetch 184 1366 = some (1366, .iadd, 1, 0, 0, 0) := (lgs_12 1366 (Nat.le_of_ble_eq_true rfl)).trans (by decide +kernel)
theorem lg_1367 : mfetch 184 1367 = some (1367, .iaload, 1, 0, 0, 0) := (lgs_12 1367 (Nat.le_of_ble_eq_true rfl)).trans (by decide +kernel)
theorem lg_1368 : mfetch 184 1368 = some (1368, .aload_n 0, 1, 0, 0, 0) := (lgs_12 1368 (Nat.le_of_ble_eq_true rfl)).trans (by decide +kernel)
theorem lg_1369 : mfetch 184 1369 = some (1369, .iload_n 3, 1, 0, 0, 0) := (lgs_12 1369 (Nat.le_of_ble_eq_true rfl)).trans (by decide +kernel)
theorem lg_1370 : mfetch 184 1370 = some (1370, .iconst 4, 1, 0, 0, 0) := (lgs_12 1370 (Nat.le_of_ble_eq_true rfl)).trans (by decide +kernel)
theorem lg_1371 : mfetch 184 1371 = some (1371, .iadd, 1, 0, 0, 0) := (lgs_12 1371 (Nat.le_of_ble_eq_true rfl)).trans (by decide +kernel)
theorem lg_1372 : mfetch 184 1372 = some (1372, .iaload, 1, 0, 0, 0) := (lgs_12 1372 (Nat.le_of_ble_eq_true rfl)).trans (by decide +kernel)
theorem lg_1373 : mfetch 184 1373 = some (1373, .invokevirtual 163, 3, 102, 0, 0) := (lgs_12 1373 (Nat.le_of_ble_eq_true rfl)).trans (by decide +kernel)
theorem lg_1376 : mfetch 184 1376 = some (1376, .pop, 1, 0, 0, 0) := (lgs_12 1376 (Nat.le_of_ble_eq_true rfl)).trans (by decide +kernel)
theorem lg_1377 : mfetch 184 1377 = some (1377, .aload_n 2, 1, 0, 0, 0) := (lgs_12 1377 (Nat.le_of_ble_eq_true rfl)).trans (by decide +kernel)
theorem lg_1378 : mfetch 184 1378 = some (1378, .aload_n 0, 1, 0, 0, 0) := (lgs_12 1378 (Nat.le_of_ble_eq_true rfl)).trans (by decide +kernel)
theorem lg_1379 : mfetch 184 1379 = some (1379, .iload_n 3, 1, 0, 0, 0) := (lgs_12 1379 (Nat.le_of_ble_eq_true rfl)).trans (by decide +kernel)
theorem lg_1380 : mfetch 184 1380 = some (1380, .iconst 1, 1, 0, 0, 0) := (lgs_12 1380 (Nat.le_of_ble_eq_true rfl)).trans (by decide +kernel)
theorem lg_1381 : mfetch 184 1381 = some (1381, .iadd, 1, 0, 0, 0) := (lgs_12 1381 (Nat.le_of_ble_eq_true rfl)).trans (by decide +kernel)
theorem lg_1382 : mfetch 184 1382 = some (1382, .iaload, 1, 0, 0, 0) := (lgs_12 1382 (Nat.le_of_ble_eq_true rfl)).trans (by decide +kernel)
theorem lg_1383 : mfetch 184 1383 = some (1383, .aload_n 0, 1, 0, 0, 0) := (lgs_12 1383 (Nat.le_of_ble_eq_true rfl)).trans (by decide +kernel)
theorem lg_1384 : mfetch 184 1384 = some (1384, .iload_n 3, 1, 0, 0, 0) := (lgs_12 1384 (Nat.le_of_ble_eq_true rfl)).trans (by decide +kernel)
theorem lg_1385 : mfetch 184 1385 = some (1385, .iconst 2, 1, 0, 0, 0) := (lgs_12 1385 (Nat.le_of_ble_eq_true rfl)).trans (by decide +kernel)
theorem lg_1386 : mfetch 184 1386 = some (1386, .iadd, 1, 0, 0, 0) := (lgs_12 1386 (Nat.le_of_ble_eq_true rfl)).trans (by decide +kernel)
theorem lg_1387 : mfetch 184 1387 = some (1387, .iaload, 1, 0, 0, 0) := (lgs_12 1387 (Nat.le_of_ble_eq_true rfl)).trans (by decide +kernel)
theorem lg_1388 : mfetch 184 1388 = some (1388, .aload_n 0, 1, 0, 0, 0) := (lgs_12 1388 (Nat.le_of_ble_eq_true rfl)).trans (by decide +kernel)
theorem lg_1389 : mfetch 184 1389 = some (1389, .iload_n 3, 1, 0, 0, 0) := (lgs_12 1389 (Nat.le_of_ble_eq_true rfl)).trans (by decide +kernel)
theorem lg_1390 : mfetch 184 1390 = some (1390, .iconst 3, 1, 0, 0, 0) := (lgs_12 1390 (Nat.le_of_ble_eq_true rfl)).trans (by decide +kernel)
theorem lg_1391 : mfetch 184 1391 = some (1391, .iadd, 1, 0, 0, 0) := (lgs_12 1391 (Nat.le_of_ble_eq_true rfl)).trans (by decide +kernel)
theorem lg_1392 : mfetch 184 1392 = some (1392, .iaload, 1, 0, 0, 0) := (lgs_12 1392 (Nat.le_of_ble_eq_true rfl)).trans (by decide +kernel)
theorem lg_1393 : mfetch 184 1393 = some (1393, .aload_n 0, 1, 0, 0, 0) := (lgs_12 1393 (Nat.le_of_ble_eq_true rfl)).trans (by decide +kernel)
theorem lg_1394 : mfetch 184 1394 = some (1394, .iload_n 3, 1, 0, 0, 0) := (lgs_12 1394 (Nat.le_of_ble_eq_true rfl)).trans (by decide +kernel)
theorem lg_1395 : mfetch 184 1395 = some (1395, .iconst 4, 1, 0, 0, 0) := (lgs_12 1395 (Nat.le_of_ble_eq_true rfl)).trans (by decide +kernel)
theorem lg_1396 : mfetch 184 1396 = some (1396, .iadd, 1, 0, 0, 0) := (lgs_12 1396 (Nat.le_of_ble_eq_true rfl)).trans (by decide +kernel)
theorem lg_1397 : mfetch 184 1397 = some (1397, .iaload, 1, 0, 0, 0) := (lgs_12 1397 (Nat.le_of_ble_eq_true rfl)).trans (by decide +kernel)
theorem lg_1398 : mfetch 184 1398 = some (1398, .invokevirtual 167, 3, 181, 0, 0) := (lgs_12 1398 (Nat.le_of_ble_eq_true rfl)).trans (by decide +kernel)
theorem lg_1401 : mfetch 184 1401 = some (1401, .pop, 1, 0, 0, 0) := (lgs_12 1401 (Nat.le_of_ble_eq_true rfl)).trans (by decide +kernel)
theorem lg_1402 : mfetch 184 1402 = some (1402, .goto 39, 3, 0, 0, 0) := (lgs_12 1402 (Nat.le_of_ble_eq_true rfl)).trans (by decide +kernel)
theorem lg_1405 : mfetch 184 1405 = some (1405, .aload_n 1, 1, 0, 0, 0) := (lgs_12 1405 (Nat.le_of_ble_eq_true rfl)).trans (by decide +kernel)
theorem lg_1406 : mfetch 184 1406 = some (1406, .invokevirtual 168, 3, 103, 0, 0) := (lgs_12 1406 (Nat.le_of_ble_eq_true rfl)).trans (by decide +kernel)
theorem lg_1409 : mfetch 184 1409 = some (1409, .pop, 1, 0, 0, 0) := (lgs_12 1409 (Nat.le_of_ble_eq_true rfl)).trans (by decide +kernel)
theorem lg_1410 : mfetch 184 1410 = some (1410, .aload_n 2, 1, 0, 0, 0) := (lgs_12 1410 (Nat.le_of_ble_eq_true rfl)).trans (by decide +kernel)
theorem lg_1411 : mfetch 184 1411 = some (1411, .invokevirtual 171, 3, 182, 0, 0) := (lgs_12 1411 (Nat.le_of_ble_eq_true rfl)).trans (by decide +kernel)
theorem lg_1414 : mfetch 184 1414 = some (1414, .pop, 1, 0, 0, 0) := (lgs_12 1414 (Nat.le_of_ble_eq_true rfl)).trans (by decide +kernel)
theorem lg_1415 : mfetch 184 1415 = some (1415, .goto 26, 3, 0, 0, 0) := (lgs_12 1415 (Nat.le_of_ble_eq_true rfl)).trans (by decide +kernel)
theorem lg_1418 : mfetch 184 1418 = some (1418, .aload_n 1, 1, 0, 0, 0) := (lgs_12 1418 (Nat.le_of_ble_eq_true rfl)).trans (by decide +kernel)
theorem lg_1419 : mfetch 184 1419 = some (1419, .aload_n 0, 1, 0, 0, 0) := (lgs_12 1419 (Nat.le_of_ble_eq_true rfl)).trans (by decide +kernel)
theorem lg_1420 : mfetch 184 1420 = some (1420, .iload_n 3, 1, 0, 0, 0) := (lgs_12 1420 (Nat.le_of_ble_eq_true rfl)).trans (by decide +kernel)
theorem lg_1421 : mfetch 184 1421 = some (1421, .iconst 1, 1, 0, 0, 0) := (lgs_12 1421 (Nat.le_of_ble_eq_true rfl)).trans (by decide +kernel)
theorem lg_1422 : mfetch 184 1422 = some (1422, .iadd, 1, 0, 0, 0) := (lgs_12 1422 (Nat.le_of_ble_eq_true rfl)).trans (by decide +kernel)
theorem lg_1423 : mfetch 184 1423 = some (1423, .iaload, 1, 0, 0, 0) := (lgs_12 1423 (Nat.le_of_ble_eq_true rfl)).trans (by decide +kernel)
theorem lg_1424 : mfetch 184 1424 = some (1424, .invokevirtual 172, 3, 104, 0, 0) := (lgs_12 1424 (Nat.le_of_ble_eq_true rfl)).trans (by decide +kernel)
theorem lg_1427 : mfetch 184 1427 = some (1427, .pop, 1, 0, 0, 0) := (lgs_12 1427 (Nat.le_of_ble_eq_true rfl)).trans (by decide +kernel)
theorem lg_1428 : mfetch 184 1428 = some (1428, .aload_n 2, 1, 0, 0, 0) := (lgs_12 1428 (Nat.le_of_ble_eq_true rfl)).trans (by decide +kernel)
theorem lg_1429 : mfetch 184 1429 = some (1429, .aload_n 0, 1, 0, 0, 0) := (lgs_12 1429 (Nat.le_of_ble_eq_true rfl)).trans (by decide +kernel)
theorem lg_1430 : mfetch 184 1430 = some (1430, .iload_n 3, 1, 0, 0, 0) := (lgs_12 1430 (Nat.le_of_ble_eq_true rfl)).trans (by decide +kernel)
theorem lg_1431 : mfetch 184 1431 = some (1431, .iconst 1, 1, 0, 0, 0) := (lgs_12 1431 (Nat.le_of_ble_eq_true rfl)).trans (by decide +kernel)
theorem lg_1432 : mfetch 184 1432 = some (1432, .iadd, 1, 0, 0, 0) := (lgs_12 1432 (Nat.le_of_ble_eq_true rfl)).trans (by decide +kernel)
theorem lg_1433 : mfetch 184 1433 = some (1433, .iaload, 1, 0, 0, 0) := (lgs_12 1433 (Nat.le_of_ble_eq_true rfl)).trans (by decide +kernel)
theorem lg_1434 : mfetch 184 1434 = some (1434, .invokevirtual 175, 3, 183, 0, 0) := (lgs_12 1434 (Nat.le_of_ble_eq_true rfl)).trans (by decide +kernel)
theorem lg_1437 : mfetch 184 1437 = some (1437, .pop, 1, 0, 0, 0) := (lgs_12 1437 (Nat.le_of_ble_eq_true rfl)).trans (by decide +kernel)
theorem lg_1438 : mfetch 184 1438 = some (1438, .goto 3, 3, 0, 0, 0) := (lgs_12 1438 (Nat.le_of_ble_eq_true rfl)).trans (by decide +kernel)
section LAW
variable {sc : List Int32} {d : Nat} {hC hM HS hC' hM' : mH} {nc ns i NC NS : Nat} {vs ws : List Value}
set_option maxRecDepth 100000 in
theorem law_case_0 {u w : Int32} (hL : sc.length < 2 ^ 31) (hi : i + 6 ≤ sc.length) (hR : LR hC hM HS) (hc : hC[10]? = some (.inr (4, vs))) (hm : hM[10]? = some (.inr (5, ws))) (hA : mEnds sc d 55 (mentry 55 (.ref 10 :: [.int (sc.getD (i + 1) 0)]) hC) (some (.int u), hC', 0, 0)) (hB : mEnds sc d 112 (mentry 112 (.ref 10 :: [.int (sc.getD (i + 1) 0)]) hM) (some (.int w), hM', 0, 0))
    (k : ∀ HS', LR hC' hM' HS' → mFin sc (d + 1) NC NS (1441, lawL i, [], HS', nc, ns)) : mFin sc (d + 1) NC NS (204, lawL i, [], HS, nc, ns) := by
  refine mFin.step (q' := (205, lawL i, .ref 10 :: [], HS, nc, ns)) (step_fetch (i := (204, .aload_n 1, 1, 0, 0, 0)) lg_204 rfl) mmon_rf ?_
  refine law_arg (k := 1) (by omega) hL lg_205 lg_206 lg_207 lg_208 lg_209 ?_
  refine law_C (as := [.int (sc.getD (i + 1) 0)]) (st := []) hR (idx := 13) (a := 55) lg_210 (by decide) rfl (fun _ => rfl) (fun _ => rfl) rfl hc rfl (Nat.le_of_ble_eq_true rfl) hA (fun H1 R1 => ?_)
  refine law_pop lg_213 rfl ?_
  refine mFin.step (q' := (215, lawL i, .ref 141 :: [], H1, nc, ns)) (step_fetch (i := (214, .aload_n 2, 1, 0, 0, 0)) lg_214 rfl) mmon_rf ?_
  refine law_arg (k := 1) (by omega) hL lg_215 lg_216 lg_217 lg_218 lg_219 ?_
  refine law_M (as := [.int (sc.getD (i + 1) 0)]) (st := []) R1 (idx := 17) (a := 112) lg_220 (by decide) rfl (fun _ => rfl) (fun _ => rfl) rfl hm rfl (Nat.le_of_ble_eq_true rfl) hB (fun H2 R2 => ?_)
  refine law_pop lg_223 rfl ?_
  exact law_go lg_224 (by decide) (k H2 R2)
set_option maxRecDepth 100000 in
theorem law_case_1 {u w : Int32} (hL : sc.length < 2 ^ 31) (hi : i + 6 ≤ sc.length) (hR : LR hC hM HS) (hc : hC[10]? = some (.inr (4, vs))) (hm : hM[10]? = some (.inr (5, ws))) (hA : mEnds sc d 56 (mentry 56 (.ref 10 :: [.int (sc.getD (i + 1) 0)]) hC) (some (.int u), hC', 0, 0)) (hB : mEnds sc d 113 (mentry 113 (.ref 10 :: [.int (sc.getD (i + 1) 0)]) hM) (some (.int w), hM', 0, 0))
    (k : ∀ HS', LR hC' hM' HS' → mFin sc (d + 1) NC NS (1441, lawL i, [], HS', nc, ns)) : mFin sc (d + 1) NC NS (227, lawL i, [], HS, nc, ns) := by
  refine mFin.step (q' := (228, lawL i, .ref 10 :: [], HS, nc, ns)) (step_fetch (i := (227, .aload_n 1, 1, 0, 0, 0)) lg_227 rfl) mmon_rf ?_
  refine law_arg (k := 1) (by omega) hL lg_228 lg_229 lg_230 lg_231 lg_232 ?_
  refine law_C (as := [.int (sc.getD (i + 1) 0)]) (st := []) hR (idx := 18) (a := 56) lg_233 (by decide) rfl (fun _ => rfl) (fun _ => rfl) rfl hc rfl (Nat.le_of_ble_eq_true rfl) hA (fun H1 R1 => ?_)
  refine law_pop lg_236 rfl ?_
  refine mFin.step (q' := (238, lawL i, .ref 141 :: [], H1, nc, ns)) (step_fetch (i := (237, .aload_n 2, 1, 0, 0, 0)) lg_237 rfl) mmon_rf ?_
  refine law_arg (k := 1) (by omega) hL lg_238 lg_239 lg_240 lg_241 lg_242 ?_
  refine law_M (as := [.int (sc.getD (i + 1) 0)]) (st := []) R1 (idx := 21) (a := 113) lg_243 (by decide) rfl (fun _ => rfl) (fun _ => rfl) rfl hm rfl (Nat.le_of_ble_eq_true rfl) hB (fun H2 R2 => ?_)
  refine law_pop lg_246 rfl ?_
  exact law_go lg_247 (by decide) (k H2 R2)
set_option maxRecDepth 100000 in
theorem law_case_2 {u w : Int32} (hL : sc.length < 2 ^ 31) (hi : i + 6 ≤ sc.length) (hR : LR hC hM HS) (hc : hC[10]? = some (.inr (4, vs))) (hm : hM[10]? = some (.inr (5, ws))) (hA : mEnds sc d 57 (mentry 57 (.ref 10 :: []) hC) (some (.int u), hC', 0, 0)) (hB : mEnds sc d 124 (mentry 124 (.ref 10 :: []) hM) (some (.int w), hM', 0, 0))
    (k : ∀ HS', LR hC' hM' HS' → mFin sc (d + 1) NC NS (1441, lawL i, [], HS', nc, ns)) : mFin sc (d + 1) NC NS (250, lawL i, [], HS, nc, ns) := by
  refine mFin.step (q' := (251, lawL i, .ref 10 :: [], HS, nc, ns)) (step_fetch (i := (250, .aload_n 1, 1, 0, 0, 0)) lg_250 rfl) mmon_rf ?_
  refine law_C (as := []) (st := []) hR (idx := 22) (a := 57) lg_251 (by decide) rfl (fun _ => rfl) (fun _ => rfl) rfl hc rfl (Nat.le_of_ble_eq_true rfl) hA (fun H1 R1 => ?_)
  refine law_pop lg_254 rfl ?_
  refine mFin.step (q' := (256, lawL i, .ref 141 :: [], H1, nc, ns)) (step_fetch (i := (255, .aload_n 2, 1, 0, 0, 0)) lg_255 rfl) mmon_rf ?_
  refine law_M (as := []) (st := []) R1 (idx := 26) (a := 124) lg_256 (by decide) rfl (fun _ => rfl) (fun _ => rfl) rfl hm rfl (Nat.le_of_ble_eq_true rfl) hB (fun H2 R2 => ?_)
  refine law_pop lg_259 rfl ?_
  exact law_go lg_260 (by decide) (k H2 R2)
set_option maxRecDepth 100000 in
theorem law_case_3 {u w : Int32} (hL : sc.length < 2 ^ 31) (hi : i + 6 ≤ sc.length) (hR : LR hC hM HS) (hc : hC[10]? = some (.inr (4, vs))) (hm : hM[10]? = some (.inr (5, ws))) (hA : mEnds sc d 58 (mentry 58 (.ref 10 :: []) hC) (some (.int u), hC', 0, 0)) (hB : mEnds sc d 125 (mentry 125 (.ref 10 :: []) hM) (some (.int w), hM', 0, 0))
    (k : ∀ HS', LR hC' hM' HS' → mFin sc (d + 1) NC NS (1441, lawL i, [], HS', nc, ns)) : mFin sc (d + 1) NC NS (263, lawL i, [], HS, nc, ns) := by
  refine mFin.step (q' := (264, lawL i, .ref 10 :: [], HS, nc, ns)) (step_fetch (i := (263, .aload_n 1, 1, 0, 0, 0)) lg_263 rfl) mmon_rf ?_
  refine law_C (as := []) (st := []) hR (idx := 27) (a := 58) lg_264 (by decide) rfl (fun _ => rfl) (fun _ => rfl) rfl hc rfl (Nat.le_of_ble_eq_true rfl) hA (fun H1 R1 => ?_)
  refine law_pop lg_267 rfl ?_
  refine mFin.step (q' := (269, lawL i, .ref 141 :: [], H1, nc, ns)) (step_fetch (i := (268, .aload_n 2, 1, 0, 0, 0)) lg_268 rfl) mmon_rf ?_
  refine law_M (as := []) (st := []) R1 (idx := 30) (a := 125) lg_269 (by decide) rfl (fun _ => rfl) (fun _ => rfl) rfl hm rfl (Nat.le_of_ble_eq_true rfl) hB (fun H2 R2 => ?_)
  refine law_pop lg_272 rfl ?_
  exact law_go lg_273 (by decide) (k H2 R2)
set_option maxRecDepth 100000 in
theorem law_case_4 {u w : Int32} (hL : sc.length < 2 ^ 31) (hi : i + 6 ≤ sc.length) (hR : LR hC hM HS) (hc : hC[10]? = some (.inr (4, vs))) (hm : hM[10]? = some (.inr (5, ws))) (hA : mEnds sc d 59 (mentry 59 (.ref 10 :: [.int (sc.getD (i + 1) 0)]) hC) (some (.int u), hC', 0, 0)) (hB : mEnds sc d 138 (mentry 138 (.ref 10 :: [.int (sc.getD (i + 1) 0)]) hM) (some (.int w), hM', 0, 0))
    (k : ∀ HS', LR hC' hM' HS' → mFin sc (d + 1) NC NS (1441, lawL i, [], HS', nc, ns)) : mFin sc (d + 1) NC NS (276, lawL i, [], HS, nc, ns) := by
  refine mFin.step (q' := (277, lawL i, .ref 10 :: [], HS, nc, ns)) (step_fetch (i := (276, .aload_n 1, 1, 0, 0, 0)) lg_276 rfl) mmon_rf ?_
  refine law_arg (k := 1) (by omega) hL lg_277 lg_278 lg_279 lg_280 lg_281 ?_
  refine law_C (as := [.int (sc.getD (i + 1) 0)]) (st := []) hR (idx := 31) (a := 59) lg_282 (by decide) rfl (fun _ => rfl) (fun _ => rfl) rfl hc rfl (Nat.le_of_ble_eq_true rfl) hA (fun H1 R1 => ?_)
  refine law_pop lg_285 rfl ?_
  refine mFin.step (q' := (287, lawL i, .ref 141 :: [], H1, nc, ns)) (step_fetch (i := (286, .aload_n 2, 1, 0, 0, 0)) lg_286 rfl) mmon_rf ?_
  refine law_arg (k := 1) (by omega) hL lg_287 lg_288 lg_289 lg_290 lg_291 ?_
  refine law_M (as := [.int (sc.getD (i + 1) 0)]) (st := []) R1 (idx := 34) (a := 138) lg_292 (by decide) rfl (fun _ => rfl) (fun _ => rfl) rfl hm rfl (Nat.le_of_ble_eq_true rfl) hB (fun H2 R2 => ?_)
  refine law_pop lg_295 rfl ?_
  exact law_go lg_296 (by decide) (k H2 R2)
set_option maxRecDepth 100000 in
theorem law_case_5 {u w : Int32} (hL : sc.length < 2 ^ 31) (hi : i + 6 ≤ sc.length) (hR : LR hC hM HS) (hc : hC[10]? = some (.inr (4, vs))) (hm : hM[10]? = some (.inr (5, ws))) (hA : mEnds sc d 60 (mentry 60 (.ref 10 :: [.int (sc.getD (i + 1) 0), .int (sc.getD (i + 2) 0)]) hC) (some (.int u), hC', 0, 0)) (hB : mEnds sc d 139 (mentry 139 (.ref 10 :: [.int (sc.getD (i + 1) 0), .int (sc.getD (i + 2) 0)]) hM) (some (.int w), hM', 0, 0))
    (k : ∀ HS', LR hC' hM' HS' → mFin sc (d + 1) NC NS (1441, lawL i, [], HS', nc, ns)) : mFin sc (d + 1) NC NS (299, lawL i, [], HS, nc, ns) := by
  refine mFin.step (q' := (300, lawL i, .ref 10 :: [], HS, nc, ns)) (step_fetch (i := (299, .aload_n 1, 1, 0, 0, 0)) lg_299 rfl) mmon_rf ?_
  refine law_arg (k := 1) (by omega) hL lg_300 lg_301 lg_302 lg_303 lg_304 ?_
  refine law_arg (k := 2) (by omega) hL lg_305 lg_306 lg_307 lg_308 lg_309 ?_
  refine law_C (as := [.int (sc.getD (i + 1) 0), .int (sc.getD (i + 2) 0)]) (st := []) hR (idx := 35) (a := 60) lg_310 (by decide) rfl (fun _ => rfl) (fun _ => rfl) rfl hc rfl (Nat.le_of_ble_eq_true rfl) hA (fun H1 R1 => ?_)
  refine law_pop lg_313 rfl ?_
  refine mFin.step (q' := (315, lawL i, .ref 141 :: [], H1, nc, ns)) (step_fetch (i := (314, .aload_n 2, 1, 0, 0, 0)) lg_314 rfl) mmon_rf ?_
  refine law_arg (k := 1) (by omega) hL lg_315 lg_316 lg_317 lg_318 lg_319 ?_
  refine law_arg (k := 2) (by omega) hL lg_320 lg_321 lg_322 lg_323 lg_324 ?_
  refine law_M (as := [.int (sc.getD (i + 1) 0), .int (sc.getD (i + 2) 0)]) (st := []) R1 (idx := 39) (a := 139) lg_325 (by decide) rfl (fun _ => rfl) (fun _ => rfl) rfl hm rfl (Nat.le_of_ble_eq_true rfl) hB (fun H2 R2 => ?_)
  refine law_pop lg_328 rfl ?_
  exact law_go lg_329 (by decide) (k H2 R2)
set_option maxRecDepth 100000 in
theorem law_case_6 {u w : Int32} (hL : sc.length < 2 ^ 31) (hi : i + 6 ≤ sc.length) (hR : LR hC hM HS) (hc : hC[10]? = some (.inr (4, vs))) (hm : hM[10]? = some (.inr (5, ws))) (hA : mEnds sc d 62 (mentry 62 (.ref 10 :: [.int (sc.getD (i + 1) 0)]) hC) (some (.int u), hC', 0, 0)) (hB : mEnds sc d 140 (mentry 140 (.ref 10 :: [.int (sc.getD (i + 1) 0)]) hM) (some (.int w), hM', 0, 0))
    (k : ∀ HS', LR hC' hM' HS' → mFin sc (d + 1) NC NS (1441, lawL i, [], HS', nc, ns)) : mFin sc (d + 1) NC NS (332, lawL i, [], HS, nc, ns) := by
  refine mFin.step (q' := (333, lawL i, .ref 10 :: [], HS, nc, ns)) (step_fetch (i := (332, .aload_n 1, 1, 0, 0, 0)) lg_332 rfl) mmon_rf ?_
  refine law_arg (k := 1) (by omega) hL lg_333 lg_334 lg_335 lg_336 lg_337 ?_
  refine law_C (as := [.int (sc.getD (i + 1) 0)]) (st := []) hR (idx := 40) (a := 62) lg_338 (by decide) rfl (fun _ => rfl) (fun _ => rfl) rfl hc rfl (Nat.le_of_ble_eq_true rfl) hA (fun H1 R1 => ?_)
  refine law_pop lg_341 rfl ?_
  refine mFin.step (q' := (343, lawL i, .ref 141 :: [], H1, nc, ns)) (step_fetch (i := (342, .aload_n 2, 1, 0, 0, 0)) lg_342 rfl) mmon_rf ?_
  refine law_arg (k := 1) (by omega) hL lg_343 lg_344 lg_345 lg_346 lg_347 ?_
  refine law_M (as := [.int (sc.getD (i + 1) 0)]) (st := []) R1 (idx := 43) (a := 140) lg_348 (by decide) rfl (fun _ => rfl) (fun _ => rfl) rfl hm rfl (Nat.le_of_ble_eq_true rfl) hB (fun H2 R2 => ?_)
  refine law_pop lg_351 rfl ?_
  exact law_go lg_352 (by decide) (k H2 R2)
set_option maxRecDepth 100000 in
theorem law_case_7 {u w : Int32} (hL : sc.length < 2 ^ 31) (hi : i + 6 ≤ sc.length) (hR : LR hC hM HS) (hc : hC[10]? = some (.inr (4, vs))) (hm : hM[10]? = some (.inr (5, ws))) (hA : mEnds sc d 63 (mentry 63 (.ref 10 :: [.int (sc.getD (i + 1) 0)]) hC) (some (.int u), hC', 0, 0)) (hB : mEnds sc d 141 (mentry 141 (.ref 10 :: [.int (sc.getD (i + 1) 0)]) hM) (some (.int w), hM', 0, 0))
    (k : ∀ HS', LR hC' hM' HS' → mFin sc (d + 1) NC NS (1441, lawL i, [], HS', nc, ns)) : mFin sc (d + 1) NC NS (355, lawL i, [], HS, nc, ns) := by
  refine mFin.step (q' := (356, lawL i, .ref 10 :: [], HS, nc, ns)) (step_fetch (i := (355, .aload_n 1, 1, 0, 0, 0)) lg_355 rfl) mmon_rf ?_
  refine law_arg (k := 1) (by omega) hL lg_356 lg_357 lg_358 lg_359 lg_360 ?_
  refine law_C (as := [.int (sc.getD (i + 1) 0)]) (st := []) hR (idx := 44) (a := 63) lg_361 (by decide) rfl (fun _ => rfl) (fun _ => rfl) rfl hc rfl (Nat.le_of_ble_eq_true rfl) hA (fun H1 R1 => ?_)
  refine law_pop lg_364 rfl ?_
  refine mFin.step (q' := (366, lawL i, .ref 141 :: [], H1, nc, ns)) (step_fetch (i := (365, .aload_n 2, 1, 0, 0, 0)) lg_365 rfl) mmon_rf ?_
  refine law_arg (k := 1) (by omega) hL lg_366 lg_367 lg_368 lg_369 lg_370 ?_
  refine law_M (as := [.int (sc.getD (i + 1) 0)]) (st := []) R1 (idx := 47) (a := 141) lg_371 (by decide) rfl (fun _ => rfl) (fun _ => rfl) rfl hm rfl (Nat.le_of_ble_eq_true rfl) hB (fun H2 R2 => ?_)
  refine law_pop lg_374 rfl ?_
  exact law_go lg_375 (by decide) (k H2 R2)
set_option maxRecDepth 100000 in
theorem law_case_8 {u w : Int32} (hL : sc.length < 2 ^ 31) (hi : i + 6 ≤ sc.length) (hR : LR hC hM HS) (hc : hC[10]? = some (.inr (4, vs))) (hm : hM[10]? = some (.inr (5, ws))) (hA : mEnds sc d 64 (mentry 64 (.ref 10 :: [.int (sc.getD (i + 1) 0), .int (sc.getD (i + 2) 0), .int (sc.getD (i + 3) 0)]) hC) (some (.int u), hC', 0, 0)) (hB : mEnds sc d 143 (mentry 143 (.ref 10 :: [.int (sc.getD (i + 1) 0), .int (sc.getD (i + 2) 0), .int (sc.getD (i + 3) 0)]) hM) (some (.int w), hM', 0, 0))
    (k : ∀ HS', LR hC' hM' HS' → mFin sc (d + 1) NC NS (1441, lawL i, [], HS', nc, ns)) : mFin sc (d + 1) NC NS (378, lawL i, [], HS, nc, ns) := by
  refine mFin.step (q' := (379, lawL i, .ref 10 :: [], HS, nc, ns)) (step_fetch (i := (378, .aload_n 1, 1, 0, 0, 0)) lg_378 rfl) mmon_rf ?_
  refine law_arg (k := 1) (by omega) hL lg_379 lg_380 lg_381 lg_382 lg_383 ?_
  refine law_arg (k := 2) (by omega) hL lg_384 lg_385 lg_386 lg_387 lg_388 ?_
  refine law_arg (k := 3) (by omega) hL lg_389 lg_390 lg_391 lg_392 lg_393 ?_
  refine law_C (as := [.int (sc.getD (i + 1) 0), .int (sc.getD (i + 2) 0), .int (sc.getD (i + 3) 0)]) (st := []) hR (idx := 48) (a := 64) lg_394 (by decide) rfl (fun _ => rfl) (fun _ => rfl) rfl hc rfl (Nat.le_of_ble_eq_true rfl) hA (fun H1 R1 => ?_)
  refine law_pop lg_397 rfl ?_
  refine mFin.step (q' := (399, lawL i, .ref 141 :: [], H1, nc, ns)) (step_fetch (i := (398, .aload_n 2, 1, 0, 0, 0)) lg_398 rfl) mmon_rf ?_
  refine law_arg (k := 1) (by omega) hL lg_399 lg_400 lg_401 lg_402 lg_403 ?_
  refine law_arg (k := 2) (by omega) hL lg_404 lg_405 lg_406 lg_407 lg_408 ?_
  refine law_arg (k := 3) (by omega) hL lg_409 lg_410 lg_411 lg_412 lg_413 ?_
  refine law_M (as := [.int (sc.getD (i + 1) 0), .int (sc.getD (i + 2) 0), .int (sc.getD (i + 3) 0)]) (st := []) R1 (idx := 52) (a := 143) lg_414 (by decide) rfl (fun _ => rfl) (fun _ => rfl) rfl hm rfl (Nat.le_of_ble_eq_true rfl) hB (fun H2 R2 => ?_)
  refine law_pop lg_417 rfl ?_
  exact law_go lg_418 (by decide) (k H2 R2)
set_option maxRecDepth 100000 in
theorem law_case_9 {u w : Int32} (hL : sc.length < 2 ^ 31) (hi : i + 6 ≤ sc.length) (hR : LR hC hM HS) (hc : hC[10]? = some (.inr (4, vs))) (hm : hM[10]? = some (.inr (5, ws))) (hA : mEnds sc d 65 (mentry 65 (.ref 10 :: [.int (sc.getD (i + 1) 0), .int (sc.getD (i + 2) 0), .int (sc.getD (i + 3) 0)]) hC) (some (.int u), hC', 0, 0)) (hB : mEnds sc d 144 (mentry 144 (.ref 10 :: [.int (sc.getD (i + 1) 0), .int (sc.getD (i + 2) 0), .int (sc.getD (i + 3) 0)]) hM) (some (.int w), hM', 0, 0))
    (k : ∀ HS', LR hC' hM' HS' → mFin sc (d + 1) NC NS (1441, lawL i, [], HS', nc, ns)) : mFin sc (d + 1) NC NS (421, lawL i, [], HS, nc, ns) := by
  refine mFin.step (q' := (422, lawL i, .ref 10 :: [], HS, nc, ns)) (step_fetch (i := (421, .aload_n 1, 1, 0, 0, 0)) lg_421 rfl) mmon_rf ?_
  refine law_arg (k := 1) (by omega) hL lg_422 lg_423 lg_424 lg_425 lg_426 ?_
  refine law_arg (k := 2) (by omega) hL lg_427 lg_428 lg_429 lg_430 lg_431 ?_
  refine law_arg (k := 3) (by omega) hL lg_432 lg_433 lg_434 lg_435 lg_436 ?_
  refine law_C (as := [.int (sc.getD (i + 1) 0), .int (sc.getD (i + 2) 0), .int (sc.getD (i + 3) 0)]) (st := []) hR (idx := 53) (a := 65) lg_437 (by decide) rfl (fun _ => rfl) (fun _ => rfl) rfl hc rfl (Nat.le_of_ble_eq_true rfl) hA (fun H1 R1 => ?_)
  refine law_pop lg_440 rfl ?_
  refine mFin.step (q' := (442, lawL i, .ref 141 :: [], H1, nc, ns)) (step_fetch (i := (441, .aload_n 2, 1, 0, 0, 0)) lg_441 rfl) mmon_rf ?_
  refine law_arg (k := 1) (by omega) hL lg_442 lg_443 lg_444 lg_445 lg_446 ?_
  refine law_arg (k := 2) (by omega) hL lg_447 lg_448 lg_449 lg_450 lg_451 ?_
  refine law_arg (k := 3) (by omega) hL lg_452 lg_453 lg_454 lg_455 lg_456 ?_
  refine law_M (as := [.int (sc.getD (i + 1) 0), .int (sc.getD (i + 2) 0), .int (sc.getD (i + 3) 0)]) (st := []) R1 (idx := 56) (a := 144) lg_457 (by decide) rfl (fun _ => rfl) (fun _ => rfl) rfl hm rfl (Nat.le_of_ble_eq_true rfl) hB (fun H2 R2 => ?_)
  refine law_pop lg_460 rfl ?_
  exact law_go lg_461 (by decide) (k H2 R2)
set_option maxRecDepth 100000 in
theorem law_case_10 {u w : Int32} (hL : sc.length < 2 ^ 31) (hi : i + 6 ≤ sc.length) (hR : LR hC hM HS) (hc : hC[10]? = some (.inr (4, vs))) (hm : hM[10]? = some (.inr (5, ws))) (hA : mEnds sc d 66 (mentry 66 (.ref 10 :: [.int (sc.getD (i + 1) 0)]) hC) (some (.int u), hC', 0, 0)) (hB : mEnds sc d 146 (mentry 146 (.ref 10 :: [.int (sc.getD (i + 1) 0)]) hM) (some (.int w), hM', 0, 0))
    (k : ∀ HS', LR hC' hM' HS' → mFin sc (d + 1) NC NS (1441, lawL i, [], HS', nc, ns)) : mFin sc (d + 1) NC NS (464, lawL i, [], HS, nc, ns) := by
  refine mFin.step (q' := (465, lawL i, .ref 10 :: [], HS, nc, ns)) (step_fetch (i := (464, .aload_n 1, 1, 0, 0, 0)) lg_464 rfl) mmon_rf ?_
  refine law_arg (k := 1) (by omega) hL lg_465 lg_466 lg_467 lg_468 lg_469 ?_
  refine law_C (as := [.int (sc.getD (i + 1) 0)]) (st := []) hR (idx := 57) (a := 66) lg_470 (by decide) rfl (fun _ => rfl) (fun _ => rfl) rfl hc rfl (Nat.le_of_ble_eq_true rfl) hA (fun H1 R1 => ?_)
  refine law_pop lg_473 rfl ?_
  refine mFin.step (q' := (475, lawL i, .ref 141 :: [], H1, nc, ns)) (step_fetch (i := (474, .aload_n 2, 1, 0, 0, 0)) lg_474 rfl) mmon_rf ?_
  refine law_arg (k := 1) (by omega) hL lg_475 lg_476 lg_477 lg_478 lg_479 ?_
  refine law_M (as := [.int (sc.getD (i + 1) 0)]) (st := []) R1 (idx := 60) (a := 146) lg_480 (by decide) rfl (fun _ => rfl) (fun _ => rfl) rfl hm rfl (Nat.le_of_ble_eq_true rfl) hB (fun H2 R2 => ?_)
  refine law_pop lg_483 rfl ?_
  exact law_go lg_484 (by decide) (k H2 R2)
set_option maxRecDepth 100000 in
theorem law_case_11 {u w : Int32} (hL : sc.length < 2 ^ 31) (hi : i + 6 ≤ sc.length) (hR : LR hC hM HS) (hc : hC[10]? = some (.inr (4, vs))) (hm : hM[10]? = some (.inr (5, ws))) (hA : mEnds sc d 67 (mentry 67 (.ref 10 :: [.int (sc.getD (i + 1) 0), .int (sc.getD (i + 2) 0)]) hC) (some (.int u), hC', 0, 0)) (hB : mEnds sc d 148 (mentry 148 (.ref 10 :: [.int (sc.getD (i + 1) 0), .int (sc.getD (i + 2) 0)]) hM) (some (.int w), hM', 0, 0))
    (k : ∀ HS', LR hC' hM' HS' → mFin sc (d + 1) NC NS (1441, lawL i, [], HS', nc, ns)) : mFin sc (d + 1) NC NS (487, lawL i, [], HS, nc, ns) := by
  refine mFin.step (q' := (488, lawL i, .ref 10 :: [], HS, nc, ns)) (step_fetch (i := (487, .aload_n 1, 1, 0, 0, 0)) lg_487 rfl) mmon_rf ?_
  refine law_arg (k := 1) (by omega) hL lg_488 lg_489 lg_490 lg_491 lg_492 ?_
  refine law_arg (k := 2) (by omega) hL lg_493 lg_494 lg_495 lg_496 lg_497 ?_
  refine law_C (as := [.int (sc.getD (i + 1) 0), .int (sc.getD (i + 2) 0)]) (st := []) hR (idx := 61) (a := 67) lg_498 (by decide) rfl (fun _ => rfl) (fun _ => rfl) rfl hc rfl (Nat.le_of_ble_eq_true rfl) hA (fun H1 R1 => ?_)
  refine law_pop lg_501 rfl ?_
  refine mFin.step (q' := (503, lawL i, .ref 141 :: [], H1, nc, ns)) (step_fetch (i := (502, .aload_n 2, 1, 0, 0, 0)) lg_502 rfl) mmon_rf ?_
  refine law_arg (k := 1) (by omega) hL lg_503 lg_504 lg_505 lg_506 lg_507 ?_
  refine law_arg (k := 2) (by omega) hL lg_508 lg_509 lg_510 lg_511 lg_512 ?_
  refine law_M (as := [.int (sc.getD (i + 1) 0), .int (sc.getD (i + 2) 0)]) (st := []) R1 (idx := 64) (a := 148) lg_513 (by decide) rfl (fun _ => rfl) (fun _ => rfl) rfl hm rfl (Nat.le_of_ble_eq_true rfl) hB (fun H2 R2 => ?_)
  refine law_pop lg_516 rfl ?_
  exact law_go lg_517 (by decide) (k H2 R2)
set_option maxRecDepth 100000 in
theorem law_case_12 {u w : Int32} (hL : sc.length < 2 ^ 31) (hi : i + 6 ≤ sc.length) (hR : LR hC hM HS) (hc : hC[10]? = some (.inr (4, vs))) (hm : hM[10]? = some (.inr (5, ws))) (hA : mEnds sc d 68 (mentry 68 (.ref 10 :: [.int (sc.getD (i + 1) 0), .int (sc.getD (i + 2) 0)]) hC) (some (.int u), hC', 0, 0)) (hB : mEnds sc d 149 (mentry 149 (.ref 10 :: [.int (sc.getD (i + 1) 0), .int (sc.getD (i + 2) 0)]) hM) (some (.int w), hM', 0, 0))
    (k : ∀ HS', LR hC' hM' HS' → mFin sc (d + 1) NC NS (1441, lawL i, [], HS', nc, ns)) : mFin sc (d + 1) NC NS (520, lawL i, [], HS, nc, ns) := by
  refine mFin.step (q' := (521, lawL i, .ref 10 :: [], HS, nc, ns)) (step_fetch (i := (520, .aload_n 1, 1, 0, 0, 0)) lg_520 rfl) mmon_rf ?_
  refine law_arg (k := 1) (by omega) hL lg_521 lg_522 lg_523 lg_524 lg_525 ?_
  refine law_arg (k := 2) (by omega) hL lg_526 lg_527 lg_528 lg_529 lg_530 ?_
  refine law_C (as := [.int (sc.getD (i + 1) 0), .int (sc.getD (i + 2) 0)]) (st := []) hR (idx := 65) (a := 68) lg_531 (by decide) rfl (fun _ => rfl) (fun _ => rfl) rfl hc rfl (Nat.le_of_ble_eq_true rfl) hA (fun H1 R1 => ?_)
  refine law_pop lg_534 rfl ?_
  refine mFin.step (q' := (536, lawL i, .ref 141 :: [], H1, nc, ns)) (step_fetch (i := (535, .aload_n 2, 1, 0, 0, 0)) lg_535 rfl) mmon_rf ?_
  refine law_arg (k := 1) (by omega) hL lg_536 lg_537 lg_538 lg_539 lg_540 ?_
  refine law_arg (k := 2) (by omega) hL lg_541 lg_542 lg_543 lg_544 lg_545 ?_
  refine law_M (as := [.int (sc.getD (i + 1) 0), .int (sc.getD (i + 2) 0)]) (st := []) R1 (idx := 68) (a := 149) lg_546 (by decide) rfl (fun _ => rfl) (fun _ => rfl) rfl hm rfl (Nat.le_of_ble_eq_true rfl) hB (fun H2 R2 => ?_)
  refine law_pop lg_549 rfl ?_
  exact law_go lg_550 (by decide) (k H2 R2)
set_option maxRecDepth 100000 in
theorem law_case_13 {u w : Int32} (hL : sc.length < 2 ^ 31) (hi : i + 6 ≤ sc.length) (hR : LR hC hM HS) (hc : hC[10]? = some (.inr (4, vs))) (hm : hM[10]? = some (.inr (5, ws))) (hA : mEnds sc d 69 (mentry 69 (.ref 10 :: [.int (sc.getD (i + 1) 0), .int (sc.getD (i + 2) 0)]) hC) (some (.int u), hC', 0, 0)) (hB : mEnds sc d 150 (mentry 150 (.ref 10 :: [.int (sc.getD (i + 1) 0), .int (sc.getD (i + 2) 0)]) hM) (some (.int w), hM', 0, 0))
    (k : ∀ HS', LR hC' hM' HS' → mFin sc (d + 1) NC NS (1441, lawL i, [], HS', nc, ns)) : mFin sc (d + 1) NC NS (553, lawL i, [], HS, nc, ns) := by
  refine mFin.step (q' := (554, lawL i, .ref 10 :: [], HS, nc, ns)) (step_fetch (i := (553, .aload_n 1, 1, 0, 0, 0)) lg_553 rfl) mmon_rf ?_
  refine law_arg (k := 1) (by omega) hL lg_554 lg_555 lg_556 lg_557 lg_558 ?_
  refine law_arg (k := 2) (by omega) hL lg_559 lg_560 lg_561 lg_562 lg_563 ?_
  refine law_C (as := [.int (sc.getD (i + 1) 0), .int (sc.getD (i + 2) 0)]) (st := []) hR (idx := 69) (a := 69) lg_564 (by decide) rfl (fun _ => rfl) (fun _ => rfl) rfl hc rfl (Nat.le_of_ble_eq_true rfl) hA (fun H1 R1 => ?_)
  refine law_pop lg_567 rfl ?_
  refine mFin.step (q' := (569, lawL i, .ref 141 :: [], H1, nc, ns)) (step_fetch (i := (568, .aload_n 2, 1, 0, 0, 0)) lg_568 rfl) mmon_rf ?_
  refine law_arg (k := 1) (by omega) hL lg_569 lg_570 lg_571 lg_572 lg_573 ?_
  refine law_arg (k := 2) (by omega) hL lg_574 lg_575 lg_576 lg_577 lg_578 ?_
  refine law_M (as := [.int (sc.getD (i + 1) 0), .int (sc.getD (i + 2) 0)]) (st := []) R1 (idx := 72) (a := 150) lg_579 (by decide) rfl (fun _ => rfl) (fun _ => rfl) rfl hm rfl (Nat.le_of_ble_eq_true rfl) hB (fun H2 R2 => ?_)
  refine law_pop lg_582 rfl ?_
  exact law_go lg_583 (by decide) (k H2 R2)
set_option maxRecDepth 100000 in
theorem law_case_14 {u w : Int32} (hL : sc.length < 2 ^ 31) (hi : i + 6 ≤ sc.length) (hR : LR hC hM HS) (hc : hC[10]? = some (.inr (4, vs))) (hm : hM[10]? = some (.inr (5, ws))) (hA : mEnds sc d 70 (mentry 70 (.ref 10 :: [.int (sc.getD (i + 1) 0)]) hC) (some (.int u), hC', 0, 0)) (hB : mEnds sc d 151 (mentry 151 (.ref 10 :: [.int (sc.getD (i + 1) 0)]) hM) (some (.int w), hM', 0, 0))
    (k : ∀ HS', LR hC' hM' HS' → mFin sc (d + 1) NC NS (1441, lawL i, [], HS', nc, ns)) : mFin sc (d + 1) NC NS (586, lawL i, [], HS, nc, ns) := by
  refine mFin.step (q' := (587, lawL i, .ref 10 :: [], HS, nc, ns)) (step_fetch (i := (586, .aload_n 1, 1, 0, 0, 0)) lg_586 rfl) mmon_rf ?_
  refine law_arg (k := 1) (by omega) hL lg_587 lg_588 lg_589 lg_590 lg_591 ?_
  refine law_C (as := [.int (sc.getD (i + 1) 0)]) (st := []) hR (idx := 73) (a := 70) lg_592 (by decide) rfl (fun _ => rfl) (fun _ => rfl) rfl hc rfl (Nat.le_of_ble_eq_true rfl) hA (fun H1 R1 => ?_)
  refine law_pop lg_595 rfl ?_
  refine mFin.step (q' := (597, lawL i, .ref 141 :: [], H1, nc, ns)) (step_fetch (i := (596, .aload_n 2, 1, 0, 0, 0)) lg_596 rfl) mmon_rf ?_
  refine law_arg (k := 1) (by omega) hL lg_597 lg_598 lg_599 lg_600 lg_601 ?_
  refine law_M (as := [.int (sc.getD (i + 1) 0)]) (st := []) R1 (idx := 76) (a := 151) lg_602 (by decide) rfl (fun _ => rfl) (fun _ => rfl) rfl hm rfl (Nat.le_of_ble_eq_true rfl) hB (fun H2 R2 => ?_)
  refine law_pop lg_605 rfl ?_
  exact law_go lg_606 (by decide) (k H2 R2)
set_option maxRecDepth 100000 in
theorem law_case_15 {u w : Int32} (hL : sc.length < 2 ^ 31) (hi : i + 6 ≤ sc.length) (hR : LR hC hM HS) (hc : hC[10]? = some (.inr (4, vs))) (hm : hM[10]? = some (.inr (5, ws))) (hA : mEnds sc d 71 (mentry 71 (.ref 10 :: [.int (sc.getD (i + 1) 0), .int (sc.getD (i + 2) 0)]) hC) (some (.int u), hC', 0, 0)) (hB : mEnds sc d 154 (mentry 154 (.ref 10 :: [.int (sc.getD (i + 1) 0), .int (sc.getD (i + 2) 0)]) hM) (some (.int w), hM', 0, 0))
    (k : ∀ HS', LR hC' hM' HS' → mFin sc (d + 1) NC NS (1441, lawL i, [], HS', nc, ns)) : mFin sc (d + 1) NC NS (609, lawL i, [], HS, nc, ns) := by
  refine mFin.step (q' := (610, lawL i, .ref 10 :: [], HS, nc, ns)) (step_fetch (i := (609, .aload_n 1, 1, 0, 0, 0)) lg_609 rfl) mmon_rf ?_
  refine law_arg (k := 1) (by omega) hL lg_610 lg_611 lg_612 lg_613 lg_614 ?_
  refine law_arg (k := 2) (by omega) hL lg_615 lg_616 lg_617 lg_618 lg_619 ?_
  refine law_C (as := [.int (sc.getD (i + 1) 0), .int (sc.getD (i + 2) 0)]) (st := []) hR (idx := 77) (a := 71) lg_620 (by decide) rfl (fun _ => rfl) (fun _ => rfl) rfl hc rfl (Nat.le_of_ble_eq_true rfl) hA (fun H1 R1 => ?_)
  refine law_pop lg_623 rfl ?_
  refine mFin.step (q' := (625, lawL i, .ref 141 :: [], H1, nc, ns)) (step_fetch (i := (624, .aload_n 2, 1, 0, 0, 0)) lg_624 rfl) mmon_rf ?_
  refine law_arg (k := 1) (by omega) hL lg_625 lg_626 lg_627 lg_628 lg_629 ?_
  refine law_arg (k := 2) (by omega) hL lg_630 lg_631 lg_632 lg_633 lg_634 ?_
  refine law_M (as := [.int (sc.getD (i + 1) 0), .int (sc.getD (i + 2) 0)]) (st := []) R1 (idx := 80) (a := 154) lg_635 (by decide) rfl (fun _ => rfl) (fun _ => rfl) rfl hm rfl (Nat.le_of_ble_eq_true rfl) hB (fun H2 R2 => ?_)
  refine law_pop lg_638 rfl ?_
  exact law_go lg_639 (by decide) (k H2 R2)
set_option maxRecDepth 100000 in
theorem law_case_16 {u w : Int32} (hL : sc.length < 2 ^ 31) (hi : i + 6 ≤ sc.length) (hR : LR hC hM HS) (hc : hC[10]? = some (.inr (4, vs))) (hm : hM[10]? = some (.inr (5, ws))) (hA : mEnds sc d 73 (mentry 73 (.ref 10 :: [.int (sc.getD (i + 1) 0), .int (sc.getD (i + 2) 0), .int (sc.getD (i + 3) 0)]) hC) (some (.int u), hC', 0, 0)) (hB : mEnds sc d 155 (mentry 155 (.ref 10 :: [.int (sc.getD (i + 1) 0), .int (sc.getD (i + 2) 0), .int (sc.getD (i + 3) 0)]) hM) (some (.int w), hM', 0, 0))
    (k : ∀ HS', LR hC' hM' HS' → mFin sc (d + 1) NC NS (1441, lawL i, [], HS', nc, ns)) : mFin sc (d + 1) NC NS (642, lawL i, [], HS, nc, ns) := by
  refine mFin.step (q' := (643, lawL i, .ref 10 :: [], HS, nc, ns)) (step_fetch (i := (642, .aload_n 1, 1, 0, 0, 0)) lg_642 rfl) mmon_rf ?_
  refine law_arg (k := 1) (by omega) hL lg_643 lg_644 lg_645 lg_646 lg_647 ?_
  refine law_arg (k := 2) (by omega) hL lg_648 lg_649 lg_650 lg_651 lg_652 ?_
  refine law_arg (k := 3) (by omega) hL lg_653 lg_654 lg_655 lg_656 lg_657 ?_
  refine law_C (as := [.int (sc.getD (i + 1) 0), .int (sc.getD (i + 2) 0), .int (sc.getD (i + 3) 0)]) (st := []) hR (idx := 81) (a := 73) lg_658 (by decide) rfl (fun _ => rfl) (fun _ => rfl) rfl hc rfl (Nat.le_of_ble_eq_true rfl) hA (fun H1 R1 => ?_)
  refine law_pop lg_661 rfl ?_
  refine mFin.step (q' := (663, lawL i, .ref 141 :: [], H1, nc, ns)) (step_fetch (i := (662, .aload_n 2, 1, 0, 0, 0)) lg_662 rfl) mmon_rf ?_
  refine law_arg (k := 1) (by omega) hL lg_663 lg_664 lg_665 lg_666 lg_667 ?_
  refine law_arg (k := 2) (by omega) hL lg_668 lg_669 lg_670 lg_671 lg_672 ?_
  refine law_arg (k := 3) (by omega) hL lg_673 lg_674 lg_675 lg_676 lg_677 ?_
  refine law_M (as := [.int (sc.getD (i + 1) 0), .int (sc.getD (i + 2) 0), .int (sc.getD (i + 3) 0)]) (st := []) R1 (idx := 84) (a := 155) lg_678 (by decide) rfl (fun _ => rfl) (fun _ => rfl) rfl hm rfl (Nat.le_of_ble_eq_true rfl) hB (fun H2 R2 => ?_)
  refine law_pop lg_681 rfl ?_
  exact law_go lg_682 (by decide) (k H2 R2)
set_option maxRecDepth 100000 in
theorem law_case_17 {u w : Int32} (hL : sc.length < 2 ^ 31) (hi : i + 6 ≤ sc.length) (hR : LR hC hM HS) (hc : hC[10]? = some (.inr (4, vs))) (hm : hM[10]? = some (.inr (5, ws))) (hA : mEnds sc d 74 (mentry 74 (.ref 10 :: [.int (sc.getD (i + 1) 0), .int (sc.getD (i + 2) 0)]) hC) (some (.int u), hC', 0, 0)) (hB : mEnds sc d 156 (mentry 156 (.ref 10 :: [.int (sc.getD (i + 1) 0), .int (sc.getD (i + 2) 0)]) hM) (some (.int w), hM', 0, 0))
    (k : ∀ HS', LR hC' hM' HS' → mFin sc (d + 1) NC NS (1441, lawL i, [], HS', nc, ns)) : mFin sc (d + 1) NC NS (685, lawL i, [], HS, nc, ns) := by
  refine mFin.step (q' := (686, lawL i, .ref 10 :: [], HS, nc, ns)) (step_fetch (i := (685, .aload_n 1, 1, 0, 0, 0)) lg_685 rfl) mmon_rf ?_
  refine law_arg (k := 1) (by omega) hL lg_686 lg_687 lg_688 lg_689 lg_690 ?_
  refine law_arg (k := 2) (by omega) hL lg_691 lg_692 lg_693 lg_694 lg_695 ?_
  refine law_C (as := [.int (sc.getD (i + 1) 0), .int (sc.getD (i + 2) 0)]) (st := []) hR (idx := 85) (a := 74) lg_696 (by decide) rfl (fun _ => rfl) (fun _ => rfl) rfl hc rfl (Nat.le_of_ble_eq_true rfl) hA (fun H1 R1 => ?_)
  refine law_pop lg_699 rfl ?_
  refine mFin.step (q' := (701, lawL i, .ref 141 :: [], H1, nc, ns)) (step_fetch (i := (700, .aload_n 2, 1, 0, 0, 0)) lg_700 rfl) mmon_rf ?_
  refine law_arg (k := 1) (by omega) hL lg_701 lg_702 lg_703 lg_704 lg_705 ?_
  refine law_arg (k := 2) (by omega) hL lg_706 lg_707 lg_708 lg_709 lg_710 ?_
  refine law_M (as := [.int (sc.getD (i + 1) 0), .int (sc.getD (i + 2) 0)]) (st := []) R1 (idx := 88) (a := 156) lg_711 (by decide) rfl (fun _ => rfl) (fun _ => rfl) rfl hm rfl (Nat.le_of_ble_eq_true rfl) hB (fun H2 R2 => ?_)
  refine law_pop lg_714 rfl ?_
  exact law_go lg_715 (by decide) (k H2 R2)
set_option maxRecDepth 100000 in
theorem law_case_18 {u w : Int32} (hL : sc.length < 2 ^ 31) (hi : i + 6 ≤ sc.length) (hR : LR hC hM HS) (hc : hC[10]? = some (.inr (4, vs))) (hm : hM[10]? = some (.inr (5, ws))) (hA : mEnds sc d 75 (mentry 75 (.ref 10 :: []) hC) (some (.int u), hC', 0, 0)) (hB : mEnds sc d 157 (mentry 157 (.ref 10 :: []) hM) (some (.int w), hM', 0, 0))
    (k : ∀ HS', LR hC' hM' HS' → mFin sc (d + 1) NC NS (1441, lawL i, [], HS', nc, ns)) : mFin sc (d + 1) NC NS (718, lawL i, [], HS, nc, ns) := by
  refine mFin.step (q' := (719, lawL i, .ref 10 :: [], HS, nc, ns)) (step_fetch (i := (718, .aload_n 1, 1, 0, 0, 0)) lg_718 rfl) mmon_rf ?_
  refine law_C (as := []) (st := []) hR (idx := 89) (a := 75) lg_719 (by decide) rfl (fun _ => rfl) (fun _ => rfl) rfl hc rfl (Nat.le_of_ble_eq_true rfl) hA (fun H1 R1 => ?_)
  refine law_pop lg_722 rfl ?_
  refine mFin.step (q' := (724, lawL i, .ref 141 :: [], H1, nc, ns)) (step_fetch (i := (723, .aload_n 2, 1, 0, 0, 0)) lg_723 rfl) mmon_rf ?_
  refine law_M (as := []) (st := []) R1 (idx := 92) (a := 157) lg_724 (by decide) rfl (fun _ => rfl) (fun _ => rfl) rfl hm rfl (Nat.le_of_ble_eq_true rfl) hB (fun H2 R2 => ?_)
  refine law_pop lg_727 rfl ?_
  exact law_go lg_728 (by decide) (k H2 R2)
set_option maxRecDepth 100000 in
theorem law_case_19 {u w : Int32} (hL : sc.length < 2 ^ 31) (hi : i + 6 ≤ sc.length) (hR : LR hC hM HS) (hc : hC[10]? = some (.inr (4, vs))) (hm : hM[10]? = some (.inr (5, ws))) (hA : mEnds sc d 76 (mentry 76 (.ref 10 :: [.int (sc.getD (i + 1) 0), .int (sc.getD (i + 2) 0), .int (sc.getD (i + 3) 0)]) hC) (some (.int u), hC', 0, 0)) (hB : mEnds sc d 159 (mentry 159 (.ref 10 :: [.int (sc.getD (i + 1) 0), .int (sc.getD (i + 2) 0), .int (sc.getD (i + 3) 0)]) hM) (some (.int w), hM', 0, 0))
    (k : ∀ HS', LR hC' hM' HS' → mFin sc (d + 1) NC NS (1441, lawL i, [], HS', nc, ns)) : mFin sc (d + 1) NC NS (731, lawL i, [], HS, nc, ns) := by
  refine mFin.step (q' := (732, lawL i, .ref 10 :: [], HS, nc, ns)) (step_fetch (i := (731, .aload_n 1, 1, 0, 0, 0)) lg_731 rfl) mmon_rf ?_
  refine law_arg (k := 1) (by omega) hL lg_732 lg_733 lg_734 lg_735 lg_736 ?_
  refine law_arg (k := 2) (by omega) hL lg_737 lg_738 lg_739 lg_740 lg_741 ?_
  refine law_arg (k := 3) (by omega) hL lg_742 lg_743 lg_744 lg_745 lg_746 ?_
  refine law_C (as := [.int (sc.getD (i + 1) 0), .int (sc.getD (i + 2) 0), .int (sc.getD (i + 3) 0)]) (st := []) hR (idx := 93) (a := 76) lg_747 (by decide) rfl (fun _ => rfl) (fun _ => rfl) rfl hc rfl (Nat.le_of_ble_eq_true rfl) hA (fun H1 R1 => ?_)
  refine law_pop lg_750 rfl ?_
  refine mFin.step (q' := (752, lawL i, .ref 141 :: [], H1, nc, ns)) (step_fetch (i := (751, .aload_n 2, 1, 0, 0, 0)) lg_751 rfl) mmon_rf ?_
  refine law_arg (k := 1) (by omega) hL lg_752 lg_753 lg_754 lg_755 lg_756 ?_
  refine law_arg (k := 2) (by omega) hL lg_757 lg_758 lg_759 lg_760 lg_761 ?_
  refine law_arg (k := 3) (by omega) hL lg_762 lg_763 lg_764 lg_765 lg_766 ?_
  refine law_M (as := [.int (sc.getD (i + 1) 0), .int (sc.getD (i + 2) 0), .int (sc.getD (i + 3) 0)]) (st := []) R1 (idx := 96) (a := 159) lg_767 (by decide) rfl (fun _ => rfl) (fun _ => rfl) rfl hm rfl (Nat.le_of_ble_eq_true rfl) hB (fun H2 R2 => ?_)
  refine law_pop lg_770 rfl ?_
  exact law_go lg_771 (by decide) (k H2 R2)
set_option maxRecDepth 100000 in
theorem law_case_20 {u w : Int32} (hL : sc.length < 2 ^ 31) (hi : i + 6 ≤ sc.length) (hR : LR hC hM HS) (hc : hC[10]? = some (.inr (4, vs))) (hm : hM[10]? = some (.inr (5, ws))) (hA : mEnds sc d 77 (mentry 77 (.ref 10 :: [.int (sc.getD (i + 1) 0), .int (sc.getD (i + 2) 0), .int (sc.getD (i + 3) 0)]) hC) (some (.int u), hC', 0, 0)) (hB : mEnds sc d 160 (mentry 160 (.ref 10 :: [.int (sc.getD (i + 1) 0), .int (sc.getD (i + 2) 0), .int (sc.getD (i + 3) 0)]) hM) (some (.int w), hM', 0, 0))
    (k : ∀ HS', LR hC' hM' HS' → mFin sc (d + 1) NC NS (1441, lawL i, [], HS', nc, ns)) : mFin sc (d + 1) NC NS (774, lawL i, [], HS, nc, ns) := by
  refine mFin.step (q' := (775, lawL i, .ref 10 :: [], HS, nc, ns)) (step_fetch (i := (774, .aload_n 1, 1, 0, 0, 0)) lg_774 rfl) mmon_rf ?_
  refine law_arg (k := 1) (by omega) hL lg_775 lg_776 lg_777 lg_778 lg_779 ?_
  refine law_arg (k := 2) (by omega) hL lg_780 lg_781 lg_782 lg_783 lg_784 ?_
  refine law_arg (k := 3) (by omega) hL lg_785 lg_786 lg_787 lg_788 lg_789 ?_
  refine law_C (as := [.int (sc.getD (i + 1) 0), .int (sc.getD (i + 2) 0), .int (sc.getD (i + 3) 0)]) (st := []) hR (idx := 97) (a := 77) lg_790 (by decide) rfl (fun _ => rfl) (fun _ => rfl) rfl hc rfl (Nat.le_of_ble_eq_true rfl) hA (fun H1 R1 => ?_)
  refine law_pop lg_793 rfl ?_
  refine mFin.step (q' := (795, lawL i, .ref 141 :: [], H1, nc, ns)) (step_fetch (i := (794, .aload_n 2, 1, 0, 0, 0)) lg_794 rfl) mmon_rf ?_
  refine law_arg (k := 1) (by omega) hL lg_795 lg_796 lg_797 lg_798 lg_799 ?_
  refine law_arg (k := 2) (by omega) hL lg_800 lg_801 lg_802 lg_803 lg_804 ?_
  refine law_arg (k := 3) (by omega) hL lg_805 lg_806 lg_807 lg_808 lg_809 ?_
  refine law_M (as := [.int (sc.getD (i + 1) 0), .int (sc.getD (i + 2) 0), .int (sc.getD (i + 3) 0)]) (st := []) R1 (idx := 100) (a := 160) lg_810 (by decide) rfl (fun _ => rfl) (fun _ => rfl) rfl hm rfl (Nat.le_of_ble_eq_true rfl) hB (fun H2 R2 => ?_)
  refine law_pop lg_813 rfl ?_
  exact law_go lg_814 (by decide) (k H2 R2)
set_option maxRecDepth 100000 in
theorem law_case_21 {u w : Int32} (hL : sc.length < 2 ^ 31) (hi : i + 6 ≤ sc.length) (hR : LR hC hM HS) (hc : hC[10]? = some (.inr (4, vs))) (hm : hM[10]? = some (.inr (5, ws))) (hA : mEnds sc d 78 (mentry 78 (.ref 10 :: [.int (sc.getD (i + 1) 0), .int (sc.getD (i + 2) 0)]) hC) (some (.int u), hC', 0, 0)) (hB : mEnds sc d 161 (mentry 161 (.ref 10 :: [.int (sc.getD (i + 1) 0), .int (sc.getD (i + 2) 0)]) hM) (some (.int w), hM', 0, 0))
    (k : ∀ HS', LR hC' hM' HS' → mFin sc (d + 1) NC NS (1441, lawL i, [], HS', nc, ns)) : mFin sc (d + 1) NC NS (817, lawL i, [], HS, nc, ns) := by
  refine mFin.step (q' := (818, lawL i, .ref 10 :: [], HS, nc, ns)) (step_fetch (i := (817, .aload_n 1, 1, 0, 0, 0)) lg_817 rfl) mmon_rf ?_
  refine law_arg (k := 1) (by omega) hL lg_818 lg_819 lg_820 lg_821 lg_822 ?_
  refine law_arg (k := 2) (by omega) hL lg_823 lg_824 lg_825 lg_826 lg_827 ?_
  refine law_C (as := [.int (sc.getD (i + 1) 0), .int (sc.getD (i + 2) 0)]) (st := []) hR (idx := 101) (a := 78) lg_828 (by decide) rfl (fun _ => rfl) (fun _ => rfl) rfl hc rfl (Nat.le_of_ble_eq_true rfl) hA (fun H1 R1 => ?_)
  refine law_pop lg_831 rfl ?_
  refine mFin.step (q' := (833, lawL i, .ref 141 :: [], H1, nc, ns)) (step_fetch (i := (832, .aload_n 2, 1, 0, 0, 0)) lg_832 rfl) mmon_rf ?_
  refine law_arg (k := 1) (by omega) hL lg_833 lg_834 lg_835 lg_836 lg_837 ?_
  refine law_arg (k := 2) (by omega) hL lg_838 lg_839 lg_840 lg_841 lg_842 ?_
  refine law_M (as := [.int (sc.getD (i + 1) 0), .int (sc.getD (i + 2) 0)]) (st := []) R1 (idx := 104) (a := 161) lg_843 (by decide) rfl (fun _ => rfl) (fun _ => rfl) rfl hm rfl (Nat.le_of_ble_eq_true rfl) hB (fun H2 R2 => ?_)
  refine law_pop lg_846 rfl ?_
  exact law_go lg_847 (by decide) (k H2 R2)
set_option maxRecDepth 100000 in
theorem law_case_22 {u w : Int32} (hL : sc.length < 2 ^ 31) (hi : i + 6 ≤ sc.length) (hR : LR hC hM HS) (hc : hC[10]? = some (.inr (4, vs))) (hm : hM[10]? = some (.inr (5, ws))) (hA : mEnds sc d 79 (mentry 79 (.ref 10 :: [.int (sc.getD (i + 1) 0), .int (sc.getD (i + 2) 0)]) hC) (some (.int u), hC', 0, 0)) (hB : mEnds sc d 162 (mentry 162 (.ref 10 :: [.int (sc.getD (i + 1) 0), .int (sc.getD (i + 2) 0)]) hM) (some (.int w), hM', 0, 0))
    (k : ∀ HS', LR hC' hM' HS' → mFin sc (d + 1) NC NS (1441, lawL i, [], HS', nc, ns)) : mFin sc (d + 1) NC NS (850, lawL i, [], HS, nc, ns) := by
  refine mFin.step (q' := (851, lawL i, .ref 10 :: [], HS, nc, ns)) (step_fetch (i := (850, .aload_n 1, 1, 0, 0, 0)) lg_850 rfl) mmon_rf ?_
  refine law_arg (k := 1) (by omega) hL lg_851 lg_852 lg_853 lg_854 lg_855 ?_
  refine law_arg (k := 2) (by omega) hL lg_856 lg_857 lg_858 lg_859 lg_860 ?_
  refine law_C (as := [.int (sc.getD (i + 1) 0), .int (sc.getD (i + 2) 0)]) (st := []) hR (idx := 105) (a := 79) lg_861 (by decide) rfl (fun _ => rfl) (fun _ => rfl) rfl hc rfl (Nat.le_of_ble_eq_true rfl) hA (fun H1 R1 => ?_)
  refine law_pop lg_864 rfl ?_
  refine mFin.step (q' := (866, lawL i, .ref 141 :: [], H1, nc, ns)) (step_fetch (i := (865, .aload_n 2, 1, 0, 0, 0)) lg_865 rfl) mmon_rf ?_
  refine law_arg (k := 1) (by omega) hL lg_866 lg_867 lg_868 lg_869 lg_870 ?_
  refine law_arg (k := 2) (by omega) hL lg_871 lg_872 lg_873 lg_874 lg_875 ?_
  refine law_M (as := [.int (sc.getD (i + 1) 0), .int (sc.getD (i + 2) 0)]) (st := []) R1 (idx := 108) (a := 162) lg_876 (by decide) rfl (fun _ => rfl) (fun _ => rfl) rfl hm rfl (Nat.le_of_ble_eq_true rfl) hB (fun H2 R2 => ?_)
  refine law_pop lg_879 rfl ?_
  exact law_go lg_880 (by decide) (k H2 R2)
set_option maxRecDepth 100000 in
theorem law_case_23 {u w : Int32} (hL : sc.length < 2 ^ 31) (hi : i + 6 ≤ sc.length) (hR : LR hC hM HS) (hc : hC[10]? = some (.inr (4, vs))) (hm : hM[10]? = some (.inr (5, ws))) (hA : mEnds sc d 80 (mentry 80 (.ref 10 :: [.int (sc.getD (i + 1) 0), .int (sc.getD (i + 2) 0), .int (sc.getD (i + 3) 0)]) hC) (some (.int u), hC', 0, 0)) (hB : mEnds sc d 163 (mentry 163 (.ref 10 :: [.int (sc.getD (i + 1) 0), .int (sc.getD (i + 2) 0), .int (sc.getD (i + 3) 0)]) hM) (some (.int w), hM', 0, 0))
    (k : ∀ HS', LR hC' hM' HS' → mFin sc (d + 1) NC NS (1441, lawL i, [], HS', nc, ns)) : mFin sc (d + 1) NC NS (883, lawL i, [], HS, nc, ns) := by
  refine mFin.step (q' := (884, lawL i, .ref 10 :: [], HS, nc, ns)) (step_fetch (i := (883, .aload_n 1, 1, 0, 0, 0)) lg_883 rfl) mmon_rf ?_
  refine law_arg (k := 1) (by omega) hL lg_884 lg_885 lg_886 lg_887 lg_888 ?_
  refine law_arg (k := 2) (by omega) hL lg_889 lg_890 lg_891 lg_892 lg_893 ?_
  refine law_arg (k := 3) (by omega) hL lg_894 lg_895 lg_896 lg_897 lg_898 ?_
  refine law_C (as := [.int (sc.getD (i + 1) 0), .int (sc.getD (i + 2) 0), .int (sc.getD (i + 3) 0)]) (st := []) hR (idx := 109) (a := 80) lg_899 (by decide) rfl (fun _ => rfl) (fun _ => rfl) rfl hc rfl (Nat.le_of_ble_eq_true rfl) hA (fun H1 R1 => ?_)
  refine law_pop lg_902 rfl ?_
  refine mFin.step (q' := (904, lawL i, .ref 141 :: [], H1, nc, ns)) (step_fetch (i := (903, .aload_n 2, 1, 0, 0, 0)) lg_903 rfl) mmon_rf ?_
  refine law_arg (k := 1) (by omega) hL lg_904 lg_905 lg_906 lg_907 lg_908 ?_
  refine law_arg (k := 2) (by omega) hL lg_909 lg_910 lg_911 lg_912 lg_913 ?_
  refine law_arg (k := 3) (by omega) hL lg_914 lg_915 lg_916 lg_917 lg_918 ?_
  refine law_M (as := [.int (sc.getD (i + 1) 0), .int (sc.getD (i + 2) 0), .int (sc.getD (i + 3) 0)]) (st := []) R1 (idx := 112) (a := 163) lg_919 (by decide) rfl (fun _ => rfl) (fun _ => rfl) rfl hm rfl (Nat.le_of_ble_eq_true rfl) hB (fun H2 R2 => ?_)
  refine law_pop lg_922 rfl ?_
  exact law_go lg_923 (by decide) (k H2 R2)
set_option maxRecDepth 100000 in
theorem law_case_24 {u w : Int64} (hL : sc.length < 2 ^ 31) (hi : i + 6 ≤ sc.length) (hR : LR hC hM HS) (hc : hC[10]? = some (.inr (4, vs))) (hm : hM[10]? = some (.inr (5, ws))) (hA : mEnds sc d 81 (mentry 81 (.ref 10 :: [.int (sc.getD (i + 1) 0), .int (sc.getD (i + 2) 0), .int (sc.getD (i + 3) 0), .int (sc.getD (i + 4) 0), .int (sc.getD (i + 5) 0)]) hC) (some (.long u), hC', 0, 0)) (hB : mEnds sc d 166 (mentry 166 (.ref 10 :: [.int (sc.getD (i + 1) 0), .int (sc.getD (i + 2) 0), .int (sc.getD (i + 3) 0), .int (sc.getD (i + 4) 0), .int (sc.getD (i + 5) 0)]) hM) (some (.long w), hM', 0, 0))
    (k : ∀ HS', LR hC' hM' HS' → mFin sc (d + 1) NC NS (1441, lawL i, [], HS', nc, ns)) : mFin sc (d + 1) NC NS (926, lawL i, [], HS, nc, ns) := by
  refine mFin.step (q' := (927, lawL i, .ref 10 :: [], HS, nc, ns)) (step_fetch (i := (926, .aload_n 1, 1, 0, 0, 0)) lg_926 rfl) mmon_rf ?_
  refine law_arg (k := 1) (by omega) hL lg_927 lg_928 lg_929 lg_930 lg_931 ?_
  refine law_arg (k := 2) (by omega) hL lg_932 lg_933 lg_934 lg_935 lg_936 ?_
  refine law_arg (k := 3) (by omega) hL lg_937 lg_938 lg_939 lg_940 lg_941 ?_
  refine law_arg (k := 4) (by omega) hL lg_942 lg_943 lg_944 lg_945 lg_946 ?_
  refine law_arg (k := 5) (by omega) hL lg_947 lg_948 lg_949 lg_950 lg_951 ?_
  refine law_C (as := [.int (sc.getD (i + 1) 0), .int (sc.getD (i + 2) 0), .int (sc.getD (i + 3) 0), .int (sc.getD (i + 4) 0), .int (sc.getD (i + 5) 0)]) (st := []) hR (idx := 113) (a := 81) lg_952 (by decide) rfl (fun _ => rfl) (fun _ => rfl) rfl hc rfl (Nat.le_of_ble_eq_true rfl) hA (fun H1 R1 => ?_)
  refine law_pop2 lg_955 rfl ?_
  refine mFin.step (q' := (957, lawL i, .ref 141 :: [], H1, nc, ns)) (step_fetch (i := (956, .aload_n 2, 1, 0, 0, 0)) lg_956 rfl) mmon_rf ?_
  refine law_arg (k := 1) (by omega) hL lg_957 lg_958 lg_959 lg_960 lg_961 ?_
  refine law_arg (k := 2) (by omega) hL lg_962 lg_963 lg_964 lg_965 lg_966 ?_
  refine law_arg (k := 3) (by omega) hL lg_967 lg_968 lg_969 lg_970 lg_971 ?_
  refine law_arg (k := 4) (by omega) hL lg_972 lg_973 lg_974 lg_975 lg_976 ?_
  refine law_arg (k := 5) (by omega) hL lg_977 lg_978 lg_979 lg_980 lg_981 ?_
  refine law_M (as := [.int (sc.getD (i + 1) 0), .int (sc.getD (i + 2) 0), .int (sc.getD (i + 3) 0), .int (sc.getD (i + 4) 0), .int (sc.getD (i + 5) 0)]) (st := []) R1 (idx := 117) (a := 166) lg_982 (by decide) rfl (fun _ => rfl) (fun _ => rfl) rfl hm rfl (Nat.le_of_ble_eq_true rfl) hB (fun H2 R2 => ?_)
  refine law_pop2 lg_985 rfl ?_
  exact law_go lg_986 (by decide) (k H2 R2)
set_option maxRecDepth 100000 in
theorem law_case_25 {u w : Int64} (hL : sc.length < 2 ^ 31) (hi : i + 6 ≤ sc.length) (hR : LR hC hM HS) (hc : hC[10]? = some (.inr (4, vs))) (hm : hM[10]? = some (.inr (5, ws))) (hA : mEnds sc d 82 (mentry 82 (.ref 10 :: [.int (sc.getD (i + 1) 0), .int (sc.getD (i + 2) 0), .int (sc.getD (i + 3) 0)]) hC) (some (.long u), hC', 0, 0)) (hB : mEnds sc d 167 (mentry 167 (.ref 10 :: [.int (sc.getD (i + 1) 0), .int (sc.getD (i + 2) 0), .int (sc.getD (i + 3) 0)]) hM) (some (.long w), hM', 0, 0))
    (k : ∀ HS', LR hC' hM' HS' → mFin sc (d + 1) NC NS (1441, lawL i, [], HS', nc, ns)) : mFin sc (d + 1) NC NS (989, lawL i, [], HS, nc, ns) := by
  refine mFin.step (q' := (990, lawL i, .ref 10 :: [], HS, nc, ns)) (step_fetch (i := (989, .aload_n 1, 1, 0, 0, 0)) lg_989 rfl) mmon_rf ?_
  refine law_arg (k := 1) (by omega) hL lg_990 lg_991 lg_992 lg_993 lg_994 ?_
  refine law_arg (k := 2) (by omega) hL lg_995 lg_996 lg_997 lg_998 lg_999 ?_
  refine law_arg (k := 3) (by omega) hL lg_1000 lg_1001 lg_1002 lg_1003 lg_1004 ?_
  refine law_C (as := [.int (sc.getD (i + 1) 0), .int (sc.getD (i + 2) 0), .int (sc.getD (i + 3) 0)]) (st := []) hR (idx := 118) (a := 82) lg_1005 (by decide) rfl (fun _ => rfl) (fun _ => rfl) rfl hc rfl (Nat.le_of_ble_eq_true rfl) hA (fun H1 R1 => ?_)
  refine law_pop2 lg_1008 rfl ?_
  refine mFin.step (q' := (1010, lawL i, .ref 141 :: [], H1, nc, ns)) (step_fetch (i := (1009, .aload_n 2, 1, 0, 0, 0)) lg_1009 rfl) mmon_rf ?_
  refine law_arg (k := 1) (by omega) hL lg_1010 lg_1011 lg_1012 lg_1013 lg_1014 ?_
  refine law_arg (k := 2) (by omega) hL lg_1015 lg_1016 lg_1017 lg_1018 lg_1019 ?_
  refine law_arg (k := 3) (by omega) hL lg_1020 lg_1021 lg_1022 lg_1023 lg_1024 ?_
  refine law_M (as := [.int (sc.getD (i + 1) 0), .int (sc.getD (i + 2) 0), .int (sc.getD (i + 3) 0)]) (st := []) R1 (idx := 122) (a := 167) lg_1025 (by decide) rfl (fun _ => rfl) (fun _ => rfl) rfl hm rfl (Nat.le_of_ble_eq_true rfl) hB (fun H2 R2 => ?_)
  refine law_pop2 lg_1028 rfl ?_
  exact law_go lg_1029 (by decide) (k H2 R2)
set_option maxRecDepth 100000 in
theorem law_case_26 {u w : Int32} (hL : sc.length < 2 ^ 31) (hi : i + 6 ≤ sc.length) (hR : LR hC hM HS) (hc : hC[10]? = some (.inr (4, vs))) (hm : hM[10]? = some (.inr (5, ws))) (hA : mEnds sc d 89 (mentry 89 (.ref 10 :: [.int (sc.getD (i + 1) 0), .int (sc.getD (i + 2) 0), .int (sc.getD (i + 3) 0)]) hC) (some (.int u), hC', 0, 0)) (hB : mEnds sc d 168 (mentry 168 (.ref 10 :: [.int (sc.getD (i + 1) 0), .int (sc.getD (i + 2) 0), .int (sc.getD (i + 3) 0)]) hM) (some (.int w), hM', 0, 0))
    (k : ∀ HS', LR hC' hM' HS' → mFin sc (d + 1) NC NS (1441, lawL i, [], HS', nc, ns)) : mFin sc (d + 1) NC NS (1032, lawL i, [], HS, nc, ns) := by
  refine mFin.step (q' := (1033, lawL i, .ref 10 :: [], HS, nc, ns)) (step_fetch (i := (1032, .aload_n 1, 1, 0, 0, 0)) lg_1032 rfl) mmon_rf ?_
  refine law_arg (k := 1) (by omega) hL lg_1033 lg_1034 lg_1035 lg_1036 lg_1037 ?_
  refine law_arg (k := 2) (by omega) hL lg_1038 lg_1039 lg_1040 lg_1041 lg_1042 ?_
  refine law_arg (k := 3) (by omega) hL lg_1043 lg_1044 lg_1045 lg_1046 lg_1047 ?_
  refine law_C (as := [.int (sc.getD (i + 1) 0), .int (sc.getD (i + 2) 0), .int (sc.getD (i + 3) 0)]) (st := []) hR (idx := 123) (a := 89) lg_1048 (by decide) rfl (fun _ => rfl) (fun _ => rfl) rfl hc rfl (Nat.le_of_ble_eq_true rfl) hA (fun H1 R1 => ?_)
  refine law_pop lg_1051 rfl ?_
  refine mFin.step (q' := (1053, lawL i, .ref 141 :: [], H1, nc, ns)) (step_fetch (i := (1052, .aload_n 2, 1, 0, 0, 0)) lg_1052 rfl) mmon_rf ?_
  refine law_arg (k := 1) (by omega) hL lg_1053 lg_1054 lg_1055 lg_1056 lg_1057 ?_
  refine law_arg (k := 2) (by omega) hL lg_1058 lg_1059 lg_1060 lg_1061 lg_1062 ?_
  refine law_arg (k := 3) (by omega) hL lg_1063 lg_1064 lg_1065 lg_1066 lg_1067 ?_
  refine law_M (as := [.int (sc.getD (i + 1) 0), .int (sc.getD (i + 2) 0), .int (sc.getD (i + 3) 0)]) (st := []) R1 (idx := 126) (a := 168) lg_1068 (by decide) rfl (fun _ => rfl) (fun _ => rfl) rfl hm rfl (Nat.le_of_ble_eq_true rfl) hB (fun H2 R2 => ?_)
  refine law_pop lg_1071 rfl ?_
  exact law_go lg_1072 (by decide) (k H2 R2)
set_option maxRecDepth 100000 in
theorem law_case_27 {u w : Int32} (hL : sc.length < 2 ^ 31) (hi : i + 6 ≤ sc.length) (hR : LR hC hM HS) (hc : hC[10]? = some (.inr (4, vs))) (hm : hM[10]? = some (.inr (5, ws))) (hA : mEnds sc d 90 (mentry 90 (.ref 10 :: [.int (sc.getD (i + 1) 0)]) hC) (some (.int u), hC', 0, 0)) (hB : mEnds sc d 169 (mentry 169 (.ref 10 :: [.int (sc.getD (i + 1) 0)]) hM) (some (.int w), hM', 0, 0))
    (k : ∀ HS', LR hC' hM' HS' → mFin sc (d + 1) NC NS (1441, lawL i, [], HS', nc, ns)) : mFin sc (d + 1) NC NS (1075, lawL i, [], HS, nc, ns) := by
  refine mFin.step (q' := (1076, lawL i, .ref 10 :: [], HS, nc, ns)) (step_fetch (i := (1075, .aload_n 1, 1, 0, 0, 0)) lg_1075 rfl) mmon_rf ?_
  refine law_arg (k := 1) (by omega) hL lg_1076 lg_1077 lg_1078 lg_1079 lg_1080 ?_
  refine law_C (as := [.int (sc.getD (i + 1) 0)]) (st := []) hR (idx := 127) (a := 90) lg_1081 (by decide) rfl (fun _ => rfl) (fun _ => rfl) rfl hc rfl (Nat.le_of_ble_eq_true rfl) hA (fun H1 R1 => ?_)
  refine law_pop lg_1084 rfl ?_
  refine mFin.step (q' := (1086, lawL i, .ref 141 :: [], H1, nc, ns)) (step_fetch (i := (1085, .aload_n 2, 1, 0, 0, 0)) lg_1085 rfl) mmon_rf ?_
  refine law_arg (k := 1) (by omega) hL lg_1086 lg_1087 lg_1088 lg_1089 lg_1090 ?_
  refine law_M (as := [.int (sc.getD (i + 1) 0)]) (st := []) R1 (idx := 130) (a := 169) lg_1091 (by decide) rfl (fun _ => rfl) (fun _ => rfl) rfl hm rfl (Nat.le_of_ble_eq_true rfl) hB (fun H2 R2 => ?_)
  refine law_pop lg_1094 rfl ?_
  exact law_go lg_1095 (by decide) (k H2 R2)
set_option maxRecDepth 100000 in
theorem law_case_28 {u w : Int32} (hL : sc.length < 2 ^ 31) (hi : i + 6 ≤ sc.length) (hR : LR hC hM HS) (hc : hC[10]? = some (.inr (4, vs))) (hm : hM[10]? = some (.inr (5, ws))) (hA : mEnds sc d 91 (mentry 91 (.ref 10 :: [.int (sc.getD (i + 1) 0)]) hC) (some (.int u), hC', 0, 0)) (hB : mEnds sc d 172 (mentry 172 (.ref 10 :: [.int (sc.getD (i + 1) 0)]) hM) (some (.int w), hM', 0, 0))
    (k : ∀ HS', LR hC' hM' HS' → mFin sc (d + 1) NC NS (1441, lawL i, [], HS', nc, ns)) : mFin sc (d + 1) NC NS (1098, lawL i, [], HS, nc, ns) := by
  refine mFin.step (q' := (1099, lawL i, .ref 10 :: [], HS, nc, ns)) (step_fetch (i := (1098, .aload_n 1, 1, 0, 0, 0)) lg_1098 rfl) mmon_rf ?_
  refine law_arg (k := 1) (by omega) hL lg_1099 lg_1100 lg_1101 lg_1102 lg_1103 ?_
  refine law_C (as := [.int (sc.getD (i + 1) 0)]) (st := []) hR (idx := 131) (a := 91) lg_1104 (by decide) rfl (fun _ => rfl) (fun _ => rfl) rfl hc rfl (Nat.le_of_ble_eq_true rfl) hA (fun H1 R1 => ?_)
  refine law_pop lg_1107 rfl ?_
  refine mFin.step (q' := (1109, lawL i, .ref 141 :: [], H1, nc, ns)) (step_fetch (i := (1108, .aload_n 2, 1, 0, 0, 0)) lg_1108 rfl) mmon_rf ?_
  refine law_arg (k := 1) (by omega) hL lg_1109 lg_1110 lg_1111 lg_1112 lg_1113 ?_
  refine law_M (as := [.int (sc.getD (i + 1) 0)]) (st := []) R1 (idx := 134) (a := 172) lg_1114 (by decide) rfl (fun _ => rfl) (fun _ => rfl) rfl hm rfl (Nat.le_of_ble_eq_true rfl) hB (fun H2 R2 => ?_)
  refine law_pop lg_1117 rfl ?_
  exact law_go lg_1118 (by decide) (k H2 R2)
set_option maxRecDepth 100000 in
theorem law_case_29 {u : Int32} (hL : sc.length < 2 ^ 31) (hi : i + 6 ≤ sc.length) (hR : LR hC hM HS) (hc : hC[10]? = some (.inr (4, vs))) (hm : hM[10]? = some (.inr (5, ws))) (hA : mEnds sc d 92 (mentry 92 (.ref 10 :: [.int (sc.getD (i + 1) 0)]) hC) (some (.int u), hC', 0, 0)) (hB : mEnds sc d 173 (mentry 173 (.ref 10 :: [.int (sc.getD (i + 1) 0)]) hM) (some (.int u), hM', 0, 0))
    (k : ∀ HS', LR hC' hM' HS' → mFin sc (d + 1) NC NS (1441, lawL i, [], HS', nc, ns)) : mFin sc (d + 1) NC NS (1121, lawL i, [], HS, nc, ns) := by
  refine mFin.step (q' := (1122, lawL i, .ref 10 :: [], HS, nc, ns)) (step_fetch (i := (1121, .aload_n 1, 1, 0, 0, 0)) lg_1121 rfl) mmon_rf ?_
  refine law_arg (k := 1) (by omega) hL lg_1122 lg_1123 lg_1124 lg_1125 lg_1126 ?_
  refine law_C (as := [.int (sc.getD (i + 1) 0)]) (st := []) hR (idx := 135) (a := 92) lg_1127 (by decide) rfl (fun _ => rfl) (fun _ => rfl) rfl hc rfl (Nat.le_of_ble_eq_true rfl) hA (fun H1 R1 => ?_)
  refine mFin.step (q' := (1131, lawL i, .ref 141 :: [.int u], H1, nc, ns)) (step_fetch (i := (1130, .aload_n 2, 1, 0, 0, 0)) lg_1130 rfl) mmon_rf ?_
  refine law_arg (k := 1) (by omega) hL lg_1131 lg_1132 lg_1133 lg_1134 lg_1135 ?_
  refine law_M (as := [.int (sc.getD (i + 1) 0)]) (st := [.int u]) R1 (idx := 138) (a := 173) lg_1136 (by decide) rfl (fun _ => rfl) (fun _ => rfl) rfl hm rfl (Nat.le_of_ble_eq_true rfl) hB (fun H2 R2 => ?_)
  exact law_eq lg_1139 rfl (k H2 R2)
set_option maxRecDepth 100000 in
theorem law_case_30 {u w : Int32} (hL : sc.length < 2 ^ 31) (hi : i + 6 ≤ sc.length) (hR : LR hC hM HS) (hc : hC[10]? = some (.inr (4, vs))) (hm : hM[10]? = some (.inr (5, ws))) (hA : mEnds sc d 94 (mentry 94 (.ref 10 :: [.int (sc.getD (i + 1) 0), .int (sc.getD (i + 2) 0)]) hC) (some (.int u), hC', 0, 0)) (hB : mEnds sc d 175 (mentry 175 (.ref 10 :: [.int (sc.getD (i + 1) 0), .int (sc.getD (i + 2) 0)]) hM) (some (.int w), hM', 0, 0))
    (k : ∀ HS', LR hC' hM' HS' → mFin sc (d + 1) NC NS (1441, lawL i, [], HS', nc, ns)) : mFin sc (d + 1) NC NS (1144, lawL i, [], HS, nc, ns) := by
  refine mFin.step (q' := (1145, lawL i, .ref 10 :: [], HS, nc, ns)) (step_fetch (i := (1144, .aload_n 1, 1, 0, 0, 0)) lg_1144 rfl) mmon_rf ?_
  refine law_arg (k := 1) (by omega) hL lg_1145 lg_1146 lg_1147 lg_1148 lg_1149 ?_
  refine law_arg (k := 2) (by omega) hL lg_1150 lg_1151 lg_1152 lg_1153 lg_1154 ?_
  refine law_C (as := [.int (sc.getD (i + 1) 0), .int (sc.getD (i + 2) 0)]) (st := []) hR (idx := 139) (a := 94) lg_1155 (by decide) rfl (fun _ => rfl) (fun _ => rfl) rfl hc rfl (Nat.le_of_ble_eq_true rfl) hA (fun H1 R1 => ?_)
  refine law_pop lg_1158 rfl ?_
  refine mFin.step (q' := (1160, lawL i, .ref 141 :: [], H1, nc, ns)) (step_fetch (i := (1159, .aload_n 2, 1, 0, 0, 0)) lg_1159 rfl) mmon_rf ?_
  refine law_arg (k := 1) (by omega) hL lg_1160 lg_1161 lg_1162 lg_1163 lg_1164 ?_
  refine law_arg (k := 2) (by omega) hL lg_1165 lg_1166 lg_1167 lg_1168 lg_1169 ?_
  refine law_M (as := [.int (sc.getD (i + 1) 0), .int (sc.getD (i + 2) 0)]) (st := []) R1 (idx := 142) (a := 175) lg_1170 (by decide) rfl (fun _ => rfl) (fun _ => rfl) rfl hm rfl (Nat.le_of_ble_eq_true rfl) hB (fun H2 R2 => ?_)
  refine law_pop lg_1173 rfl ?_
  exact law_go lg_1174 (by decide) (k H2 R2)
set_option maxRecDepth 100000 in
theorem law_case_31 {u w : Int32} (hL : sc.length < 2 ^ 31) (hi : i + 6 ≤ sc.length) (hR : LR hC hM HS) (hc : hC[10]? = some (.inr (4, vs))) (hm : hM[10]? = some (.inr (5, ws))) (hA : mEnds sc d 97 (mentry 97 (.ref 10 :: [.int (sc.getD (i + 1) 0), .int (sc.getD (i + 2) 0), .int (sc.getD (i + 3) 0)]) hC) (some (.int u), hC', 0, 0)) (hB : mEnds sc d 176 (mentry 176 (.ref 10 :: [.int (sc.getD (i + 1) 0), .int (sc.getD (i + 2) 0), .int (sc.getD (i + 3) 0)]) hM) (some (.int w), hM', 0, 0))
    (k : ∀ HS', LR hC' hM' HS' → mFin sc (d + 1) NC NS (1441, lawL i, [], HS', nc, ns)) : mFin sc (d + 1) NC NS (1177, lawL i, [], HS, nc, ns) := by
  refine mFin.step (q' := (1178, lawL i, .ref 10 :: [], HS, nc, ns)) (step_fetch (i := (1177, .aload_n 1, 1, 0, 0, 0)) lg_1177 rfl) mmon_rf ?_
  refine law_arg (k := 1) (by omega) hL lg_1178 lg_1179 lg_1180 lg_1181 lg_1182 ?_
  refine law_arg (k := 2) (by omega) hL lg_1183 lg_1184 lg_1185 lg_1186 lg_1187 ?_
  refine law_arg (k := 3) (by omega) hL lg_1188 lg_1189 lg_1190 lg_1191 lg_1192 ?_
  refine law_C (as := [.int (sc.getD (i + 1) 0), .int (sc.getD (i + 2) 0), .int (sc.getD (i + 3) 0)]) (st := []) hR (idx := 143) (a := 97) lg_1193 (by decide) rfl (fun _ => rfl) (fun _ => rfl) rfl hc rfl (Nat.le_of_ble_eq_true rfl) hA (fun H1 R1 => ?_)
  refine law_pop lg_1196 rfl ?_
  refine mFin.step (q' := (1198, lawL i, .ref 141 :: [], H1, nc, ns)) (step_fetch (i := (1197, .aload_n 2, 1, 0, 0, 0)) lg_1197 rfl) mmon_rf ?_
  refine law_arg (k := 1) (by omega) hL lg_1198 lg_1199 lg_1200 lg_1201 lg_1202 ?_
  refine law_arg (k := 2) (by omega) hL lg_1203 lg_1204 lg_1205 lg_1206 lg_1207 ?_
  refine law_arg (k := 3) (by omega) hL lg_1208 lg_1209 lg_1210 lg_1211 lg_1212 ?_
  refine law_M (as := [.int (sc.getD (i + 1) 0), .int (sc.getD (i + 2) 0), .int (sc.getD (i + 3) 0)]) (st := []) R1 (idx := 146) (a := 176) lg_1213 (by decide) rfl (fun _ => rfl) (fun _ => rfl) rfl hm rfl (Nat.le_of_ble_eq_true rfl) hB (fun H2 R2 => ?_)
  refine law_pop lg_1216 rfl ?_
  exact law_go lg_1217 (by decide) (k H2 R2)
set_option maxRecDepth 100000 in
theorem law_case_32 {u w : Int32} (hL : sc.length < 2 ^ 31) (hi : i + 6 ≤ sc.length) (hR : LR hC hM HS) (hc : hC[10]? = some (.inr (4, vs))) (hm : hM[10]? = some (.inr (5, ws))) (hA : mEnds sc d 98 (mentry 98 (.ref 10 :: [.int (sc.getD (i + 1) 0)]) hC) (some (.int u), hC', 0, 0)) (hB : mEnds sc d 177 (mentry 177 (.ref 10 :: [.int (sc.getD (i + 1) 0)]) hM) (some (.int w), hM', 0, 0))
    (k : ∀ HS', LR hC' hM' HS' → mFin sc (d + 1) NC NS (1441, lawL i, [], HS', nc, ns)) : mFin sc (d + 1) NC NS (1220, lawL i, [], HS, nc, ns) := by
  refine mFin.step (q' := (1221, lawL i, .ref 10 :: [], HS, nc, ns)) (step_fetch (i := (1220, .aload_n 1, 1, 0, 0, 0)) lg_1220 rfl) mmon_rf ?_
  refine law_arg (k := 1) (by omega) hL lg_1221 lg_1222 lg_1223 lg_1224 lg_1225 ?_
  refine law_C (as := [.int (sc.getD (i + 1) 0)]) (st := []) hR (idx := 147) (a := 98) lg_1226 (by decide) rfl (fun _ => rfl) (fun _ => rfl) rfl hc rfl (Nat.le_of_ble_eq_true rfl) hA (fun H1 R1 => ?_)
  refine law_pop lg_1229 rfl ?_
  refine mFin.step (q' := (1231, lawL i, .ref 141 :: [], H1, nc, ns)) (step_fetch (i := (1230, .aload_n 2, 1, 0, 0, 0)) lg_1230 rfl) mmon_rf ?_
  refine law_arg (k := 1) (by omega) hL lg_1231 lg_1232 lg_1233 lg_1234 lg_1235 ?_
  refine law_M (as := [.int (sc.getD (i + 1) 0)]) (st := []) R1 (idx := 150) (a := 177) lg_1236 (by decide) rfl (fun _ => rfl) (fun _ => rfl) rfl hm rfl (Nat.le_of_ble_eq_true rfl) hB (fun H2 R2 => ?_)
  refine law_pop lg_1239 rfl ?_
  exact law_go lg_1240 (by decide) (k H2 R2)
set_option maxRecDepth 100000 in
theorem law_case_33 {u w : Int32} (hL : sc.length < 2 ^ 31) (hi : i + 6 ≤ sc.length) (hR : LR hC hM HS) (hc : hC[10]? = some (.inr (4, vs))) (hm : hM[10]? = some (.inr (5, ws))) (hA : mEnds sc d 99 (mentry 99 (.ref 10 :: [.int (sc.getD (i + 1) 0)]) hC) (some (.int u), hC', 0, 0)) (hB : mEnds sc d 178 (mentry 178 (.ref 10 :: [.int (sc.getD (i + 1) 0)]) hM) (some (.int w), hM', 0, 0))
    (k : ∀ HS', LR hC' hM' HS' → mFin sc (d + 1) NC NS (1441, lawL i, [], HS', nc, ns)) : mFin sc (d + 1) NC NS (1243, lawL i, [], HS, nc, ns) := by
  refine mFin.step (q' := (1244, lawL i, .ref 10 :: [], HS, nc, ns)) (step_fetch (i := (1243, .aload_n 1, 1, 0, 0, 0)) lg_1243 rfl) mmon_rf ?_
  refine law_arg (k := 1) (by omega) hL lg_1244 lg_1245 lg_1246 lg_1247 lg_1248 ?_
  refine law_C (as := [.int (sc.getD (i + 1) 0)]) (st := []) hR (idx := 151) (a := 99) lg_1249 (by decide) rfl (fun _ => rfl) (fun _ => rfl) rfl hc rfl (Nat.le_of_ble_eq_true rfl) hA (fun H1 R1 => ?_)
  refine law_pop lg_1252 rfl ?_
  refine mFin.step (q' := (1254, lawL i, .ref 141 :: [], H1, nc, ns)) (step_fetch (i := (1253, .aload_n 2, 1, 0, 0, 0)) lg_1253 rfl) mmon_rf ?_
  refine law_arg (k := 1) (by omega) hL lg_1254 lg_1255 lg_1256 lg_1257 lg_1258 ?_
  refine law_M (as := [.int (sc.getD (i + 1) 0)]) (st := []) R1 (idx := 154) (a := 178) lg_1259 (by decide) rfl (fun _ => rfl) (fun _ => rfl) rfl hm rfl (Nat.le_of_ble_eq_true rfl) hB (fun H2 R2 => ?_)
  refine law_pop lg_1262 rfl ?_
  exact law_go lg_1263 (by decide) (k H2 R2)
set_option maxRecDepth 100000 in
theorem law_case_34 {u w : Int32} (hL : sc.length < 2 ^ 31) (hi : i + 6 ≤ sc.length) (hR : LR hC hM HS) (hc : hC[10]? = some (.inr (4, vs))) (hm : hM[10]? = some (.inr (5, ws))) (hA : mEnds sc d 100 (mentry 100 (.ref 10 :: [.int (sc.getD (i + 1) 0), .int (sc.getD (i + 2) 0), .int (sc.getD (i + 3) 0)]) hC) (some (.int u), hC', 0, 0)) (hB : mEnds sc d 179 (mentry 179 (.ref 10 :: [.int (sc.getD (i + 1) 0), .int (sc.getD (i + 2) 0), .int (sc.getD (i + 3) 0)]) hM) (some (.int w), hM', 0, 0))
    (k : ∀ HS', LR hC' hM' HS' → mFin sc (d + 1) NC NS (1441, lawL i, [], HS', nc, ns)) : mFin sc (d + 1) NC NS (1266, lawL i, [], HS, nc, ns) := by
  refine mFin.step (q' := (1267, lawL i, .ref 10 :: [], HS, nc, ns)) (step_fetch (i := (1266, .aload_n 1, 1, 0, 0, 0)) lg_1266 rfl) mmon_rf ?_
  refine law_arg (k := 1) (by omega) hL lg_1267 lg_1268 lg_1269 lg_1270 lg_1271 ?_
  refine law_arg (k := 2) (by omega) hL lg_1272 lg_1273 lg_1274 lg_1275 lg_1276 ?_
  refine law_arg (k := 3) (by omega) hL lg_1277 lg_1278 lg_1279 lg_1280 lg_1281 ?_
  refine law_C (as := [.int (sc.getD (i + 1) 0), .int (sc.getD (i + 2) 0), .int (sc.getD (i + 3) 0)]) (st := []) hR (idx := 155) (a := 100) lg_1282 (by decide) rfl (fun _ => rfl) (fun _ => rfl) rfl hc rfl (Nat.le_of_ble_eq_true rfl) hA (fun H1 R1 => ?_)
  refine law_pop lg_1285 rfl ?_
  refine mFin.step (q' := (1287, lawL i, .ref 141 :: [], H1, nc, ns)) (step_fetch (i := (1286, .aload_n 2, 1, 0, 0, 0)) lg_1286 rfl) mmon_rf ?_
  refine law_arg (k := 1) (by omega) hL lg_1287 lg_1288 lg_1289 lg_1290 lg_1291 ?_
  refine law_arg (k := 2) (by omega) hL lg_1292 lg_1293 lg_1294 lg_1295 lg_1296 ?_
  refine law_arg (k := 3) (by omega) hL lg_1297 lg_1298 lg_1299 lg_1300 lg_1301 ?_
  refine law_M (as := [.int (sc.getD (i + 1) 0), .int (sc.getD (i + 2) 0), .int (sc.getD (i + 3) 0)]) (st := []) R1 (idx := 158) (a := 179) lg_1302 (by decide) rfl (fun _ => rfl) (fun _ => rfl) rfl hm rfl (Nat.le_of_ble_eq_true rfl) hB (fun H2 R2 => ?_)
  refine law_pop lg_1305 rfl ?_
  exact law_go lg_1306 (by decide) (k H2 R2)
set_option maxRecDepth 100000 in
theorem law_case_35 {u w : Int32} (hL : sc.length < 2 ^ 31) (hi : i + 6 ≤ sc.length) (hR : LR hC hM HS) (hc : hC[10]? = some (.inr (4, vs))) (hm : hM[10]? = some (.inr (5, ws))) (hA : mEnds sc d 101 (mentry 101 (.ref 10 :: [.int (sc.getD (i + 1) 0), .int (sc.getD (i + 2) 0), .int (sc.getD (i + 3) 0)]) hC) (some (.int u), hC', 0, 0)) (hB : mEnds sc d 180 (mentry 180 (.ref 10 :: [.int (sc.getD (i + 1) 0), .int (sc.getD (i + 2) 0), .int (sc.getD (i + 3) 0)]) hM) (some (.int w), hM', 0, 0))
    (k : ∀ HS', LR hC' hM' HS' → mFin sc (d + 1) NC NS (1441, lawL i, [], HS', nc, ns)) : mFin sc (d + 1) NC NS (1309, lawL i, [], HS, nc, ns) := by
  refine mFin.step (q' := (1310, lawL i, .ref 10 :: [], HS, nc, ns)) (step_fetch (i := (1309, .aload_n 1, 1, 0, 0, 0)) lg_1309 rfl) mmon_rf ?_
  refine law_arg (k := 1) (by omega) hL lg_1310 lg_1311 lg_1312 lg_1313 lg_1314 ?_
  refine law_arg (k := 2) (by omega) hL lg_1315 lg_1316 lg_1317 lg_1318 lg_1319 ?_
  refine law_arg (k := 3) (by omega) hL lg_1320 lg_1321 lg_1322 lg_1323 lg_1324 ?_
  refine law_C (as := [.int (sc.getD (i + 1) 0), .int (sc.getD (i + 2) 0), .int (sc.getD (i + 3) 0)]) (st := []) hR (idx := 159) (a := 101) lg_1325 (by decide) rfl (fun _ => rfl) (fun _ => rfl) rfl hc rfl (Nat.le_of_ble_eq_true rfl) hA (fun H1 R1 => ?_)
  refine law_pop lg_1328 rfl ?_
  refine mFin.step (q' := (1330, lawL i, .ref 141 :: [], H1, nc, ns)) (step_fetch (i := (1329, .aload_n 2, 1, 0, 0, 0)) lg_1329 rfl) mmon_rf ?_
  refine law_arg (k := 1) (by omega) hL lg_1330 lg_1331 lg_1332 lg_1333 lg_1334 ?_
  refine law_arg (k := 2) (by omega) hL lg_1335 lg_1336 lg_1337 lg_1338 lg_1339 ?_
  refine law_arg (k := 3) (by omega) hL lg_1340 lg_1341 lg_1342 lg_1343 lg_1344 ?_
  refine law_M (as := [.int (sc.getD (i + 1) 0), .int (sc.getD (i + 2) 0), .int (sc.getD (i + 3) 0)]) (st := []) R1 (idx := 162) (a := 180) lg_1345 (by decide) rfl (fun _ => rfl) (fun _ => rfl) rfl hm rfl (Nat.le_of_ble_eq_true rfl) hB (fun H2 R2 => ?_)
  refine law_pop lg_1348 rfl ?_
  exact law_go lg_1349 (by decide) (k H2 R2)
set_option maxRecDepth 100000 in
theorem law_case_36 {u w : Int32} (hL : sc.length < 2 ^ 31) (hi : i + 6 ≤ sc.length) (hR : LR hC hM HS) (hc : hC[10]? = some (.inr (4, vs))) (hm : hM[10]? = some (.inr (5, ws))) (hA : mEnds sc d 102 (mentry 102 (.ref 10 :: [.int (sc.getD (i + 1) 0), .int (sc.getD (i + 2) 0), .int (sc.getD (i + 3) 0), .int (sc.getD (i + 4) 0)]) hC) (some (.int u), hC', 0, 0)) (hB : mEnds sc d 181 (mentry 181 (.ref 10 :: [.int (sc.getD (i + 1) 0), .int (sc.getD (i + 2) 0), .int (sc.getD (i + 3) 0), .int (sc.getD (i + 4) 0)]) hM) (some (.int w), hM', 0, 0))
    (k : ∀ HS', LR hC' hM' HS' → mFin sc (d + 1) NC NS (1441, lawL i, [], HS', nc, ns)) : mFin sc (d + 1) NC NS (1352, lawL i, [], HS, nc, ns) := by
  refine mFin.step (q' := (1353, lawL i, .ref 10 :: [], HS, nc, ns)) (step_fetch (i := (1352, .aload_n 1, 1, 0, 0, 0)) lg_1352 rfl) mmon_rf ?_
  refine law_arg (k := 1) (by omega) hL lg_1353 lg_1354 lg_1355 lg_1356 lg_1357 ?_
  refine law_arg (k := 2) (by omega) hL lg_1358 lg_1359 lg_1360 lg_1361 lg_1362 ?_
  refine law_arg (k := 3) (by omega) hL lg_1363 lg_1364 lg_1365 lg_1366 lg_1367 ?_
  refine law_arg (k := 4) (by omega) hL lg_1368 lg_1369 lg_1370 lg_1371 lg_1372 ?_
  refine law_C (as := [.int (sc.getD (i + 1) 0), .int (sc.getD (i + 2) 0), .int (sc.getD (i + 3) 0), .int (sc.getD (i + 4) 0)]) (st := []) hR (idx := 163) (a := 102) lg_1373 (by decide) rfl (fun _ => rfl) (fun _ => rfl) rfl hc rfl (Nat.le_of_ble_eq_true rfl) hA (fun H1 R1 => ?_)
  refine law_pop lg_1376 rfl ?_
  refine mFin.step (q' := (1378, lawL i, .ref 141 :: [], H1, nc, ns)) (step_fetch (i := (1377, .aload_n 2, 1, 0, 0, 0)) lg_1377 rfl) mmon_rf ?_
  refine law_arg (k := 1) (by omega) hL lg_1378 lg_1379 lg_1380 lg_1381 lg_1382 ?_
  refine law_arg (k := 2) (by omega) hL lg_1383 lg_1384 lg_1385 lg_1386 lg_1387 ?_
  refine law_arg (k := 3) (by omega) hL lg_1388 lg_1389 lg_1390 lg_1391 lg_1392 ?_
  refine law_arg (k := 4) (by omega) hL lg_1393 lg_1394 lg_1395 lg_1396 lg_1397 ?_
  refine law_M (as := [.int (sc.getD (i + 1) 0), .int (sc.getD (i + 2) 0), .int (sc.getD (i + 3) 0), .int (sc.getD (i + 4) 0)]) (st := []) R1 (idx := 167) (a := 181) lg_1398 (by decide) rfl (fun _ => rfl) (fun _ => rfl) rfl hm rfl (Nat.le_of_ble_eq_true rfl) hB (fun H2 R2 => ?_)
  refine law_pop lg_1401 rfl ?_
  exact law_go lg_1402 (by decide) (k H2 R2)
set_option maxRecDepth 100000 in
theorem law_case_37 {u w : Int32} (hL : sc.length < 2 ^ 31) (hi : i + 6 ≤ sc.length) (hR : LR hC hM HS) (hc : hC[10]? = some (.inr (4, vs))) (hm : hM[10]? = some (.inr (5, ws))) (hA : mEnds sc d 103 (mentry 103 (.ref 10 :: []) hC) (some (.int u), hC', 0, 0)) (hB : mEnds sc d 182 (mentry 182 (.ref 10 :: []) hM) (some (.int w), hM', 0, 0))
    (k : ∀ HS', LR hC' hM' HS' → mFin sc (d + 1) NC NS (1441, lawL i, [], HS', nc, ns)) : mFin sc (d + 1) NC NS (1405, lawL i, [], HS, nc, ns) := by
  refine mFin.step (q' := (1406, lawL i, .ref 10 :: [], HS, nc, ns)) (step_fetch (i := (1405, .aload_n 1, 1, 0, 0, 0)) lg_1405 rfl) mmon_rf ?_
  refine law_C (as := []) (st := []) hR (idx := 168) (a := 103) lg_1406 (by decide) rfl (fun _ => rfl) (fun _ => rfl) rfl hc rfl (Nat.le_of_ble_eq_true rfl) hA (fun H1 R1 => ?_)
  refine law_pop lg_1409 rfl ?_
  refine mFin.step (q' := (1411, lawL i, .ref 141 :: [], H1, nc, ns)) (step_fetch (i := (1410, .aload_n 2, 1, 0, 0, 0)) lg_1410 rfl) mmon_rf ?_
  refine law_M (as := []) (st := []) R1 (idx := 171) (a := 182) lg_1411 (by decide) rfl (fun _ => rfl) (fun _ => rfl) rfl hm rfl (Nat.le_of_ble_eq_true rfl) hB (fun H2 R2 => ?_)
  refine law_pop lg_1414 rfl ?_
  exact law_go lg_1415 (by decide) (k H2 R2)
set_option maxRecDepth 100000 in
theorem law_case_38 {u w : Int32} (hL : sc.length < 2 ^ 31) (hi : i + 6 ≤ sc.length) (hR : LR hC hM HS) (hc : hC[10]? = some (.inr (4, vs))) (hm : hM[10]? = some (.inr (5, ws))) (hA : mEnds sc d 104 (mentry 104 (.ref 10 :: [.int (sc.getD (i + 1) 0)]) hC) (some (.int u), hC', 0, 0)) (hB : mEnds sc d 183 (mentry 183 (.ref 10 :: [.int (sc.getD (i + 1) 0)]) hM) (some (.int w), hM', 0, 0))
    (k : ∀ HS', LR hC' hM' HS' → mFin sc (d + 1) NC NS (1441, lawL i, [], HS', nc, ns)) : mFin sc (d + 1) NC NS (1418, lawL i, [], HS, nc, ns) := by
  refine mFin.step (q' := (1419, lawL i, .ref 10 :: [], HS, nc, ns)) (step_fetch (i := (1418, .aload_n 1, 1, 0, 0, 0)) lg_1418 rfl) mmon_rf ?_
  refine law_arg (k := 1) (by omega) hL lg_1419 lg_1420 lg_1421 lg_1422 lg_1423 ?_
  refine law_C (as := [.int (sc.getD (i + 1) 0)]) (st := []) hR (idx := 172) (a := 104) lg_1424 (by decide) rfl (fun _ => rfl) (fun _ => rfl) rfl hc rfl (Nat.le_of_ble_eq_true rfl) hA (fun H1 R1 => ?_)
  refine law_pop lg_1427 rfl ?_
  refine mFin.step (q' := (1429, lawL i, .ref 141 :: [], H1, nc, ns)) (step_fetch (i := (1428, .aload_n 2, 1, 0, 0, 0)) lg_1428 rfl) mmon_rf ?_
  refine law_arg (k := 1) (by omega) hL lg_1429 lg_1430 lg_1431 lg_1432 lg_1433 ?_
  refine law_M (as := [.int (sc.getD (i + 1) 0)]) (st := []) R1 (idx := 175) (a := 183) lg_1434 (by decide) rfl (fun _ => rfl) (fun _ => rfl) rfl hm rfl (Nat.le_of_ble_eq_true rfl) hB (fun H2 R2 => ?_)
  refine law_pop lg_1437 rfl ?_
  exact law_go lg_1438 (by decide) (k H2 R2)
end LAW
end Q92
section Q93
/-! the law's loop; what the class and the reference do does not hang on the script -/
theorem mexec_sc {sc sc' : List Int32} {y : Nat} (hy : y < 184) {ins : Instr} {a b : Nat} {z : Int} {pc : Nat} {loc : mL} {stk : List Value} {hs : mH} {nc ns : Nat} : mexec sc y ins a b z pc loc stk hs nc ns = mexec sc' y ins a b z pc loc stk hs nc ns := by
  have hb : Nat.beq y 184 = false := by
    cases q : Nat.beq y 184 with
    | false => rfl
    | true => have := beqN q; omega
  cases ins <;> first
    | rfl
    | (simp only [mexec, hb, oB, cond_false])
theorem mrun_sc {sc sc' : List Int32} : ∀ {n d y : Nat} {q : mS} {x : Option Value × mH × Nat × Nat}, y < 184 → mrun sc n d y q = some x → mrun sc' n d y q = some x
  | 0, _, _, _, _, _, h => by cases h
  | n + 1, d, y, q, x, hy, h => by
    have e : mstep sc y q = mstep sc' y q := by
      unfold mstep
      split
      · rfl
      · exact mexec_sc hy
    rcases mrun_inv h with ⟨q', h1, h2, h3⟩ | ⟨v, h1, rfl⟩ | ⟨y', as, q', d', v, hs', c', s', h1, rfl, h3, h4, h5⟩
    · rw [mrun, ← e, h1]
      simp only [h2, cond_true]
      exact mrun_sc hy h3
    · rw [mrun, ← e, h1]
    · obtain ⟨ins, len, a, b, z, hd, hk, hx2⟩ := mstep_inv h1
      have hy' : y' < 184 := (mcall_inv hk hx2).2.1
      rw [mrun, ← e, h1]
      simp only [mrun_sc (sc' := sc') hy' h3]
      have g : (mmon q q' && Nat.ble (margs as).length (mmaxL y')) = true := by rw [h4.1, Nat.ble_eq_true_of_le h4.2]; rfl
      rw [g, cond_true]
      exact mrun_sc hy h5
theorem mEnds.sc {sc' : List Int32} (sc : List Int32) {d y : Nat} {q : mS} {x : Option Value × mH × Nat × Nat} (hy : y < 184) (h : mEnds sc' d y q x) : mEnds sc d y q x := by
  obtain ⟨n, hn⟩ := h
  exact ⟨n, mrun_sc hy hn⟩
theorem lf_1441 : mfetch 184 1441 = some (1441, .iinc 3 6, 3, 0, 0, 0) := by decide +kernel
theorem lf_1444 : mfetch 184 1444 = some (1444, .goto (-1426), 3, 0, 0, 0) := by decide +kernel
theorem lf_1447 : mfetch 184 1447 = some (1447, .iconst 1, 1, 0, 0, 0) := by decide +kernel
theorem lf_1448 : mfetch 184 1448 = some (1448, .ireturn, 1, 0, 0, 0) := by decide +kernel
section LAW
variable {sc : List Int32} {d : Nat} {HS : mH} {nc ns i NC NS : Nat}
theorem i8_6 : (Int8.ofInt 6).toInt32 = nI 6 := by decide +kernel
theorem law_head0 (k : mFin sc d NC NS (24, lawL i, [.int (nI sc.length - nI 6), .int (nI i)], HS, nc, ns)) : mFin sc d NC NS (18, lawL i, [], HS, nc, ns) := by
  refine mFin.steps 4 (q' := (23, lawL i, [.int (Int8.ofInt 6).toInt32, .int (Int32.ofNat sc.length), .int (nI i)], HS, nc, ns)) ?_ ?_
  · simp only [msteps]
    rw [step_fetch (i := (18, .iload_n 3, 1, 0, 0, 0)) rfl rfl]
    simp only [mmon_rf, cond_true]
    rw [step_fetch (i := (19, .aload_n 0, 1, 0, 0, 0)) rfl rfl]
    simp only [mmon_rf, cond_true]
    rw [step_fetch (i := (20, .arraylength, 1, 0, 0, 0)) rfl rfl]
    simp only [mmon_rf, cond_true]
    rw [step_fetch (i := (21, .bipush 6, 2, 0, 0, 0)) rfl rfl]
    simp only [mmon_rf, cond_true]
  · rw [i8_6]
    exact mFin.step (step_fetch (i := (23, .isub, 1, 0, 0, 0)) rfl rfl) mmon_rf k
theorem law_cmp {L i : Nat} (hL : L < 2 ^ 30) (hi : i < 2 ^ 30) : (nI L - nI 6 < nI i) ↔ L < i + 6 := by
  rw [Int32.lt_iff_toInt_lt, pk_sub_toInt hL (by decide), nI_toInt (by omega)]
  omega
theorem law_in (hL : sc.length < 2 ^ 30) (h : i + 6 ≤ sc.length) (k : mFin sc d NC NS (27, lawL i, [], HS, nc, ns)) : mFin sc d NC NS (18, lawL i, [], HS, nc, ns) := by
  refine law_head0 (mFin.step (step_fetch (i := (24, .if_icmp .gt 1423, 3, 0, 0, 0)) rfl ?_) mmon_rf k)
  show (bif mtk .gt (nI i) (nI sc.length - nI 6) then _ else mgo 27 (lawL i) [] HS nc ns) = _
  have e : mtk .gt (nI i) (nI sc.length - nI 6) = false := decide_eq_false (fun q => by rw [law_cmp hL (by omega)] at q; omega)
  rw [e]; rfl
theorem law_out (hL : sc.length < 2 ^ 30) (hi : i < 2 ^ 30) (h : sc.length < i + 6) : mFin sc d nc ns (18, lawL i, [], HS, nc, ns) := by
  refine law_head0 (mFin.step (q' := (1447, lawL i, [], HS, nc, ns)) (step_fetch (i := (24, .if_icmp .gt 1423, 3, 0, 0, 0)) rfl ?_) mmon_rf ?_)
  · show (bif mtk .gt (nI i) (nI sc.length - nI 6) then mjp 24 1423 (lawL i) [] HS nc ns else _) = _
    have e : mtk .gt (nI i) (nI sc.length - nI 6) = true := decide_eq_true ((law_cmp hL hi).mpr h)
    rw [e]; rfl
  · refine mFin.step (q' := (1448, lawL i, [.int 1], HS, nc, ns)) (step_fetch (i := (1447, .iconst 1, 1, 0, 0, 0)) lf_1447 rfl) mmon_rf ?_
    exact ⟨HS, mEnds.ret (q := (1448, lawL i, [.int 1], HS, nc, ns)) (step_fetch (i := (1448, .ireturn, 1, 0, 0, 0)) lf_1448 rfl)⟩
theorem law_inc (k : mFin sc d NC NS (18, lawL (i + 6), [], HS, nc, ns)) : mFin sc d NC NS (1441, lawL i, [], HS, nc, ns) := by
  refine mFin.step (q' := (1444, lawL (i + 6), [], HS, nc, ns)) (step_fetch (i := (1441, .iinc 3 6, 3, 0, 0, 0)) lf_1441 ?_) mmon_rf ?_
  · have e : nI (i + 6) = nI i + Int32.ofInt 6 := by rw [← nI_add]; rfl
    show mgo 1444 [some (.ref 0), some (.ref 10), some (.ref 141), some (.int (nI i + Int32.ofInt 6))] [] HS nc ns = _
    rw [← e]; rfl
  · refine mFin.step (q' := (18, lawL (i + 6), [], HS, nc, ns)) (step_fetch (i := (1444, .goto (-1426), 3, 0, 0, 0)) lf_1444 ?_) mmon_rf k
    show mjp 1444 (-1426) (lawL (i + 6)) [] HS nc ns = _
    exact mjp_eq (by decide)
theorem i8_63 : (Int8.ofInt 63).toInt32 = 63 := by decide +kernel
/-- which call it is -/
theorem law_which (hL : sc.length < 2 ^ 30) (h : i < sc.length) {j : Nat} (e : sc.getD i 0 &&& 63 = nI j) (k : mFin sc d NC NS (33, lawL i, [.int (nI j)], HS, nc, ns)) : mFin sc d NC NS (27, lawL i, [], HS, nc, ns) := by
  refine mFin.step (q' := (28, lawL i, [.ref 0], HS, nc, ns)) (step_fetch (i := (27, .aload_n 0, 1, 0, 0, 0)) rfl rfl) mmon_rf ?_
  refine mFin.step (q' := (29, lawL i, [.int (nI i), .ref 0], HS, nc, ns)) (step_fetch (i := (28, .iload_n 3, 1, 0, 0, 0)) rfl rfl) mmon_rf ?_
  refine law_num (j := i) rfl (midx_of h (by omega)) ?_
  refine mFin.step (q' := (32, lawL i, [.int (Int8.ofInt 63).toInt32, .int (sc.getD i 0)], HS, nc, ns)) (step_fetch (i := (30, .bipush 63, 2, 0, 0, 0)) rfl rfl) mmon_rf ?_
  rw [i8_63]
  refine mFin.step (q' := (33, lawL i, [.int (sc.getD i 0 &&& 63)], HS, nc, ns)) (step_fetch (i := (32, .iand, 1, 0, 0, 0)) rfl rfl) mmon_rf ?_
  rw [e]
  exact k
def lawOffs : Array Int := #[171, 194, 217, 230, 243, 266, 299, 322, 345, 388, 431, 454, 487, 520, 553, 576, 609, 652, 685, 698, 741, 784, 817, 850, 893, 956, 999, 1042, 1065, 1088, 1111, 1144, 1187, 1210, 1233, 1276, 1319, 1372, 1385]
theorem law_sw {j : Nat} {off : Int} {t : Nat} (hj : j < 39) (ho : lawOffs[j]? = some off) (ht : (33 : Int) + off = (t : Int)) (k : mFin sc d NC NS (t, lawL i, [], HS, nc, ns)) : mFin sc d NC NS (33, lawL i, [.int (nI j)], HS, nc, ns) := by
  refine mFin.step (step_fetch (i := (33, .tableswitch 1408 0 38 lawOffs, 171, 0, 0, 0)) rfl ?_) mmon_rf k
  have e : (nI j).toInt = (j : Int) := nI_toInt (by omega)
  show (if (nI j).toInt < 0 ∨ 38 < (nI j).toInt then mjp 33 1408 (lawL i) [] HS nc ns else match lawOffs[((nI j).toInt - 0).toNat]? with
    | some off => mjp 33 off (lawL i) [] HS nc ns
    | none => none) = _
  rw [e, if_neg (by omega), show ((j : Int) - 0).toNat = j by omega, ho]
  exact mjp_eq ht
theorem law_skip {j : Nat} (hj : j < 64) (h : 39 ≤ j) (k : mFin sc d NC NS (1441, lawL i, [], HS, nc, ns)) : mFin sc d NC NS (33, lawL i, [.int (nI j)], HS, nc, ns) := by
  refine mFin.step (step_fetch (i := (33, .tableswitch 1408 0 38 lawOffs, 171, 0, 0, 0)) rfl ?_) mmon_rf k
  have e : (nI j).toInt = (j : Int) := nI_toInt (by omega)
  show (if (nI j).toInt < 0 ∨ 38 < (nI j).toInt then mjp 33 1408 (lawL i) [] HS nc ns else match lawOffs[((nI j).toInt - 0).toNat]? with
    | some off => mjp 33 off (lawL i) [] HS nc ns
    | none => none) = _
  rw [e, if_pos (by omega)]
  exact mjp_eq (by decide)
end LAW
end Q93
section Q94
/-! a run of the law, out of a relation that every call keeps -/
def stepOK_0 (R : sg → sg → Prop) (s t : sg) (x1 : Int32) : Prop := ∃ (u w : Int32) (s' : sg) (t' : sg), C_feed x1 s = some (u, s') ∧ M_feed x1 t = some (w, t') ∧ R s' t'
def stepOK_1 (R : sg → sg → Prop) (s t : sg) (x1 : Int32) : Prop := ∃ (u w : Int32) (s' : sg) (t' : sg), C_end x1 s = some (u, s') ∧ M_end x1 t = some (w, t') ∧ R s' t'
def stepOK_2 (R : sg → sg → Prop) (s t : sg) : Prop := ∃ (u w : Int32) (s' : sg) (t' : sg), C_text s = some (u, s') ∧ M_text t = some (w, t') ∧ R s' t'
def stepOK_3 (R : sg → sg → Prop) (s t : sg) : Prop := ∃ (u w : Int32), C_fault s = some u ∧ M_fault t = some w ∧ R s t
def stepOK_4 (R : sg → sg → Prop) (s t : sg) (x1 : Int32) : Prop := ∃ (u w : Int32), C_rule x1 s = some u ∧ M_rule x1 t = some w ∧ R s t
def stepOK_5 (R : sg → sg → Prop) (s t : sg) (x1 : Int32) (x2 : Int32) : Prop := ∃ (u w : Int32), C_room x1 x2 s = some u ∧ M_room x1 x2 t = some w ∧ R s t
def stepOK_6 (R : sg → sg → Prop) (s t : sg) (x1 : Int32) : Prop := ∃ (u w : Int32), C_wall x1 s = some u ∧ M_wall x1 t = some w ∧ R s t
def stepOK_7 (R : sg → sg → Prop) (s t : sg) (x1 : Int32) : Prop := ∃ (u w : Int32), C_outside x1 s = some u ∧ M_outside x1 t = some w ∧ R s t
def stepOK_8 (R : sg → sg → Prop) (s t : sg) (x1 : Int32) (x2 : Int32) (x3 : Int32) : Prop := ∃ (u w : Int32) (s' : sg) (t' : sg), C_alter x1 x2 x3 s = some (u, s') ∧ M_alter x1 x2 x3 t = some (w, t') ∧ R s' t'
def stepOK_9 (R : sg → sg → Prop) (s t : sg) (x1 : Int32) (x2 : Int32) (x3 : Int32) : Prop := ∃ (u w : Int32) (s' : sg) (t' : sg), C_fit x1 x2 x3 s = some (u, s') ∧ M_fit x1 x2 x3 t = some (w, t') ∧ R s' t'
def stepOK_10 (R : sg → sg → Prop) (s t : sg) (x1 : Int32) : Prop := ∃ (u w : Int32) (s' : sg) (t' : sg), C_strip x1 s = some (u, s') ∧ M_strip x1 t = some (w, t') ∧ R s' t'
def stepOK_11 (R : sg → sg → Prop) (s t : sg) (x1 : Int32) (x2 : Int32) : Prop := ∃ (u w : Int32) (s' : sg) (t' : sg), C_mark x1 x2 s = some (u, s') ∧ M_mark x1 x2 t = some (w, t') ∧ R s' t'
def stepOK_12 (R : sg → sg → Prop) (s t : sg) (x1 : Int32) (x2 : Int32) : Prop := ∃ (u w : Int32) (s' : sg) (t' : sg), C_lag x1 x2 s = some (u, s') ∧ M_lag x1 x2 t = some (w, t') ∧ R s' t'
def stepOK_13 (R : sg → sg → Prop) (s t : sg) (x1 : Int32) (x2 : Int32) : Prop := ∃ (u w : Int32) (s' : sg) (t' : sg), C_sky x1 x2 s = some (u, s') ∧ M_sky x1 x2 t = some (w, t') ∧ R s' t'
def stepOK_14 (R : sg → sg → Prop) (s t : sg) (x1 : Int32) : Prop := ∃ (u w : Int32) (s' : sg) (t' : sg), C_hours x1 s = some (u, s') ∧ M_hours x1 t = some (w, t') ∧ R s' t'
def stepOK_15 (R : sg → sg → Prop) (s t : sg) (x1 : Int32) (x2 : Int32) : Prop := ∃ (u w : Int32) (s' : sg) (t' : sg), C_runs x1 x2 s = some (u, s') ∧ M_runs x1 x2 t = some (w, t') ∧ R s' t'
def stepOK_16 (R : sg → sg → Prop) (s t : sg) (x1 : Int32) (x2 : Int32) (x3 : Int32) : Prop := ∃ (u w : Int32) (s' : sg) (t' : sg), C_ahead x1 x2 x3 s = some (u, s') ∧ M_ahead x1 x2 x3 t = some (w, t') ∧ R s' t'
def stepOK_17 (R : sg → sg → Prop) (s t : sg) (x1 : Int32) (x2 : Int32) : Prop := ∃ (u w : Int32) (s' : sg) (t' : sg), C_cold x1 x2 s = some (u, s') ∧ M_cold x1 x2 t = some (w, t') ∧ R s' t'
def stepOK_18 (R : sg → sg → Prop) (s t : sg) : Prop := ∃ (u w : Int32) (s' : sg) (t' : sg), C_again s = some (u, s') ∧ M_again t = some (w, t') ∧ R s' t'
def stepOK_19 (R : sg → sg → Prop) (s t : sg) (x1 : Int32) (x2 : Int32) (x3 : Int32) : Prop := ∃ (u w : Int32) (s' : sg) (t' : sg), C_need x1 x2 x3 s = some (u, s') ∧ M_need x1 x2 x3 t = some (w, t') ∧ R s' t'
def stepOK_20 (R : sg → sg → Prop) (s t : sg) (x1 : Int32) (x2 : Int32) (x3 : Int32) : Prop := ∃ (u w : Int32) (s' : sg) (t' : sg), C_kind x1 x2 x3 s = some (u, s') ∧ M_kind x1 x2 x3 t = some (w, t') ∧ R s' t'
def stepOK_21 (R : sg → sg → Prop) (s t : sg) (x1 : Int32) (x2 : Int32) : Prop := ∃ (u w : Int32) (s' : sg) (t' : sg), C_swap x1 x2 s = some (u, s') ∧ M_swap x1 x2 t = some (w, t') ∧ R s' t'
def stepOK_22 (R : sg → sg → Prop) (s t : sg) (x1 : Int32) (x2 : Int32) : Prop := ∃ (u w : Int32) (s' : sg) (t' : sg), C_seal x1 x2 s = some (u, s') ∧ M_seal x1 x2 t = some (w, t') ∧ R s' t'
def stepOK_23 (R : sg → sg → Prop) (s t : sg) (x1 : Int32) (x2 : Int32) (x3 : Int32) : Prop := ∃ (u w : Int32) (s' : sg) (t' : sg), C_spare x1 x2 x3 s = some (u, s') ∧ M_spare x1 x2 x3 t = some (w, t') ∧ R s' t'
def stepOK_24 (R : sg → sg → Prop) (s t : sg) (x1 : Int32) (x2 : Int32) (x3 : Int32) (x4 : Int32) (x5 : Int32) : Prop := ∃ (u w : Int64) (s' : sg) (t' : sg), C_luck x1 x2 x3 x4 x5 s = some (u, s') ∧ M_luck x1 x2 x3 x4 x5 t = some (w, t') ∧ R s' t'
def stepOK_25 (R : sg → sg → Prop) (s t : sg) (x1 : Int32) (x2 : Int32) (x3 : Int32) : Prop := ∃ (u w : Int64) (s' : sg) (t' : sg), C_mean x1 x2 x3 s = some (u, s') ∧ M_mean x1 x2 x3 t = some (w, t') ∧ R s' t'
def stepOK_26 (R : sg → sg → Prop) (s t : sg) (x1 : Int32) (x2 : Int32) (x3 : Int32) : Prop := ∃ (u w : Int32) (s' : sg) (t' : sg), C_see x1 x2 x3 s = some (u, s') ∧ M_see x1 x2 x3 t = some (w, t') ∧ R s' t'
def stepOK_27 (R : sg → sg → Prop) (s t : sg) (x1 : Int32) : Prop := ∃ (u w : Int32) (s' : sg) (t' : sg), C_forget x1 s = some (u, s') ∧ M_forget x1 t = some (w, t') ∧ R s' t'
def stepOK_28 (R : sg → sg → Prop) (s t : sg) (x1 : Int32) : Prop := ∃ (u w : Int32) (s' : sg) (t' : sg), C_kinds x1 s = some (u, s') ∧ M_kinds x1 t = some (w, t') ∧ R s' t'
def stepOK_29 (R : sg → sg → Prop) (s t : sg) (x1 : Int32) : Prop := ∃ (u : Int32) (s' : sg) (t' : sg), C_lets x1 s = some (u, s') ∧ M_lets x1 t = some (u, t') ∧ R s' t'
def stepOK_30 (R : sg → sg → Prop) (s t : sg) (x1 : Int32) (x2 : Int32) : Prop := ∃ (u w : Int32) (s' : sg) (t' : sg), C_ask x1 x2 s = some (u, s') ∧ M_ask x1 x2 t = some (w, t') ∧ R s' t'
def stepOK_31 (R : sg → sg → Prop) (s t : sg) (x1 : Int32) (x2 : Int32) (x3 : Int32) : Prop := ∃ (u w : Int32) (s' : sg) (t' : sg), C_drift x1 x2 x3 s = some (u, s') ∧ M_drift x1 x2 x3 t = some (w, t') ∧ R s' t'
def stepOK_32 (R : sg → sg → Prop) (s t : sg) (x1 : Int32) : Prop := ∃ (u w : Int32) (s' : sg) (t' : sg), C_keep x1 s = some (u, s') ∧ M_keep x1 t = some (w, t') ∧ R s' t'
def stepOK_33 (R : sg → sg → Prop) (s t : sg) (x1 : Int32) : Prop := ∃ (u w : Int32) (s' : sg) (t' : sg), C_back x1 s = some (u, s') ∧ M_back x1 t = some (w, t') ∧ R s' t'
def stepOK_34 (R : sg → sg → Prop) (s t : sg) (x1 : Int32) (x2 : Int32) (x3 : Int32) : Prop := ∃ (u w : Int32) (s' : sg) (t' : sg), C_sheet x1 x2 x3 s = some (u, s') ∧ M_sheet x1 x2 x3 t = some (w, t') ∧ R s' t'
def stepOK_35 (R : sg → sg → Prop) (s t : sg) (x1 : Int32) (x2 : Int32) (x3 : Int32) : Prop := ∃ (u w : Int32) (s' : sg) (t' : sg), C_lay x1 x2 x3 s = some (u, s') ∧ M_lay x1 x2 x3 t = some (w, t') ∧ R s' t'
def stepOK_36 (R : sg → sg → Prop) (s t : sg) (x1 : Int32) (x2 : Int32) (x3 : Int32) (x4 : Int32) : Prop := ∃ (u w : Int32) (s' : sg) (t' : sg), C_read x1 x2 x3 x4 s = some (u, s') ∧ M_read x1 x2 x3 x4 t = some (w, t') ∧ R s' t'
def stepOK_37 (R : sg → sg → Prop) (s t : sg) : Prop := ∃ (u w : Int32), C_torn s = some u ∧ M_torn t = some w ∧ R s t
def stepOK_38 (R : sg → sg → Prop) (s t : sg) (x1 : Int32) : Prop := ∃ (u w : Int32), C_count x1 s = some u ∧ M_count x1 t = some w ∧ R s t
def stepsOK (R : sg → sg → Prop) : Prop := ∀ (s t : sg), R s t → ∀ (x1 x2 x3 x4 x5 : Int32), stepOK_0 R s t x1 ∧ stepOK_1 R s t x1 ∧ stepOK_2 R s t ∧ stepOK_3 R s t ∧ stepOK_4 R s t x1 ∧ stepOK_5 R s t x1 x2 ∧ stepOK_6 R s t x1 ∧ stepOK_7 R s t x1 ∧ stepOK_8 R s t x1 x2 x3 ∧ stepOK_9 R s t x1 x2 x3 ∧ stepOK_10 R s t x1 ∧ stepOK_11 R s t x1 x2 ∧ stepOK_12 R s t x1 x2 ∧ stepOK_13 R s t x1 x2 ∧ stepOK_14 R s t x1 ∧ stepOK_15 R s t x1 x2 ∧ stepOK_16 R s t x1 x2 x3 ∧ stepOK_17 R s t x1 x2 ∧ stepOK_18 R s t ∧ stepOK_19 R s t x1 x2 x3 ∧ stepOK_20 R s t x1 x2 x3 ∧ stepOK_21 R s t x1 x2 ∧ stepOK_22 R s t x1 x2 ∧ stepOK_23 R s t x1 x2 x3 ∧ stepOK_24 R s t x1 x2 x3 x4 x5 ∧ stepOK_25 R s t x1 x2 x3 ∧ stepOK_26 R s t x1 x2 x3 ∧ stepOK_27 R s t x1 ∧ stepOK_28 R s t x1 ∧ stepOK_29 R s t x1 ∧ stepOK_30 R s t x1 x2 ∧ stepOK_31 R s t x1 x2 x3 ∧ stepOK_32 R s t x1 ∧ stepOK_33 R s t x1 ∧ stepOK_34 R s t x1 x2 x3 ∧ stepOK_35 R s t x1 x2 x3 ∧ stepOK_36 R s t x1 x2 x3 x4 ∧ stepOK_37 R s t ∧ stepOK_38 R s t x1
theorem rE_sC (x : mE) : rE sC x = x := by
  obtain a | ⟨c, vs⟩ := x
  · rfl
  · show Sum.inr (c, vs.map (cV sC)) = _
    rw [map_sC]
theorem hp_len (sh : List sD) (s : sg) : (hp sh s).length = sh.length := by rw [hp, List.length_mapIdx]
theorem LR0 : LR (hp shC s0) (hp shM t0) (hp shC s0 ++ hMt) := by
  have l1 : (hp shC s0).length = 141 := hp_len _ _
  have l2 : (hp shM t0).length = 23 := hp_len _ _
  have d0 : ∀ i, i < 10 → (hp shM t0)[i]? = some (.inl (0, [])) ∧ (hp shC s0)[i]? = some (.inl (0, [])) := fun i hi => by
    match i, hi with
    | 0, _ => exact ⟨(hp_get rfl).trans rfl, (hp_get rfl).trans rfl⟩
    | 1, _ => exact ⟨(hp_get rfl).trans rfl, (hp_get rfl).trans rfl⟩
    | 2, _ => exact ⟨(hp_get rfl).trans rfl, (hp_get rfl).trans rfl⟩
    | 3, _ => exact ⟨(hp_get rfl).trans rfl, (hp_get rfl).trans rfl⟩
    | 4, _ => exact ⟨(hp_get rfl).trans rfl, (hp_get rfl).trans rfl⟩
    | 5, _ => exact ⟨(hp_get rfl).trans rfl, (hp_get rfl).trans rfl⟩
    | 6, _ => exact ⟨(hp_get rfl).trans rfl, (hp_get rfl).trans rfl⟩
    | 7, _ => exact ⟨(hp_get rfl).trans rfl, (hp_get rfl).trans rfl⟩
    | 8, _ => exact ⟨(hp_get rfl).trans rfl, (hp_get rfl).trans rfl⟩
    | 9, _ => exact ⟨(hp_get rfl).trans rfl, (hp_get rfl).trans rfl⟩
  have e1 : ∀ i, i < 10 → sM i = i := fun i hi => if_pos hi
  have e2 : ∀ i, 10 ≤ i → sM i = i + 131 := fun i hi => if_neg (by omega)
  refine ⟨⟨fun i x h => ?_, fun i j _ _ h => h, fun i h => h, fun i _ => rfl⟩, ⟨fun i x h => ?_, fun i j _ _ h => ?_, fun i h => ?_, fun i h => e1 i h⟩, l1, l2⟩
  · have hi := (List.getElem?_eq_some_iff.mp h).1
    rw [rE_sC]
    show (hp shC s0 ++ hMt)[i]? = some x
    rw [List.getElem?_append_left hi]; exact h
  · by_cases q : i < 10
    · rw [e1 i q, List.getElem?_append_left (by rw [l1]; omega), (d0 i q).2]
      rw [(d0 i q).1] at h
      cases h; rfl
    · rw [e2 i (by omega), List.getElem?_append_right (by rw [l1]; omega), l1, show i + 131 - 141 = i - 10 by omega, hMt, List.getElem?_map, List.getElem?_drop, show 10 + (i - 10) = i by omega, h]
      rfl
  · by_cases q : i < 10
    · by_cases q2 : j < 10
      · rw [e1 i q, e1 j q2] at h; exact h
      · rw [e1 i q, e2 j (by omega)] at h; omega
    · by_cases q2 : j < 10
      · rw [e2 i (by omega), e1 j q2] at h; omega
      · rw [e2 i (by omega), e2 j (by omega)] at h; omega
  · have h : 10 ≤ i := h
    rw [e2 i h]; show 10 ≤ i + 131; omega
theorem hpC10 (s : sg) : (hp shC s)[10]? = some (he s 10 (.inr (4, [some 11, some 19, some 20, some 21, some 22, some 23, some 27, none]))) := hp_get rfl
theorem hpM10 (s : sg) : (hp shM s)[10]? = some (he s 10 (.inr (5, [some 11, none, some 12, none, none, none, none, some 13, none, none, none, none, none, none, none, none, some 14, some 15, some 16, none, none, some 17, none, some 18, some 19, some 20, some 21, some 22, none]))) := hp_get rfl

section DO
variable {R : sg → sg → Prop} {sc : List Int32} {s t : sg} {HS : mH} {nc ns i : Nat}
set_option maxRecDepth 100000 in
theorem law_do_0 (hL31 : sc.length < 2 ^ 31) (hi : i + 6 ≤ sc.length) (hLR : LR (hp shC s) (hp shM t) HS) (k : stepOK_0 R s t (sc.getD (i + 1) 0)) (fin : ∀ (s' t' : sg) (HS' : mH), R s' t' → LR (hp shC s') (hp shM t') HS' → mFin sc 31 nc ns (1441, lawL i, [], HS', nc, ns)) : mFin sc 31 nc ns (33, lawL i, [.int (nI 0)], HS, nc, ns) := by
  obtain ⟨u, w, s', t', A, B, hR'⟩ := k
  have hA := ((ok_C_feed A).le (by decide : 1 ≤ 30)).sc sc (by decide)
  have hB := ((ok_M_feed B).le (by decide : 1 ≤ 30)).sc sc (by decide)
  exact law_sw (by decide) rfl (t := 204) (by decide) (law_case_0 hL31 hi hLR (hpC10 s) (hpM10 t) hA hB (fun HS' hLR' => fin s' t' HS' hR' hLR'))
set_option maxRecDepth 100000 in
theorem law_do_1 (hL31 : sc.length < 2 ^ 31) (hi : i + 6 ≤ sc.length) (hLR : LR (hp shC s) (hp shM t) HS) (k : stepOK_1 R s t (sc.getD (i + 1) 0)) (fin : ∀ (s' t' : sg) (HS' : mH), R s' t' → LR (hp shC s') (hp shM t') HS' → mFin sc 31 nc ns (1441, lawL i, [], HS', nc, ns)) : mFin sc 31 nc ns (33, lawL i, [.int (nI 1)], HS, nc, ns) := by
  obtain ⟨u, w, s', t', A, B, hR'⟩ := k
  have hA := ((ok_C_end A).le (by decide : 1 ≤ 30)).sc sc (by decide)
  have hB := ((ok_M_end B).le (by decide : 1 ≤ 30)).sc sc (by decide)
  exact law_sw (by decide) rfl (t := 227) (by decide) (law_case_1 hL31 hi hLR (hpC10 s) (hpM10 t) hA hB (fun HS' hLR' => fin s' t' HS' hR' hLR'))
set_option maxRecDepth 100000 in
theorem law_do_2 (hL31 : sc.length < 2 ^ 31) (hi : i + 6 ≤ sc.length) (hLR : LR (hp shC s) (hp shM t) HS) (k : stepOK_2 R s t) (fin : ∀ (s' t' : sg) (HS' : mH), R s' t' → LR (hp shC s') (hp shM t') HS' → mFin sc 31 nc ns (1441, lawL i, [], HS', nc, ns)) : mFin sc 31 nc ns (33, lawL i, [.int (nI 2)], HS, nc, ns) := by
  obtain ⟨u, w, s', t', A, B, hR'⟩ := k
  have hA := ((ok_C_text A).le (by decide : 6 ≤ 30)).sc sc (by decide)
  have hB := ((ok_M_text B).le (by decide : 6 ≤ 30)).sc sc (by decide)
  exact law_sw (by decide) rfl (t := 250) (by decide) (law_case_2 hL31 hi hLR (hpC10 s) (hpM10 t) hA hB (fun HS' hLR' => fin s' t' HS' hR' hLR'))
set_option maxRecDepth 100000 in
theorem law_do_3 (hL31 : sc.length < 2 ^ 31) (hi : i + 6 ≤ sc.length) (hLR : LR (hp shC s) (hp shM t) HS) (k : stepOK_3 R s t) (fin : ∀ (s' t' : sg) (HS' : mH), R s' t' → LR (hp shC s') (hp shM t') HS' → mFin sc 31 nc ns (1441, lawL i, [], HS', nc, ns)) : mFin sc 31 nc ns (33, lawL i, [.int (nI 3)], HS, nc, ns) := by
  obtain ⟨u, w, A, B, hR'⟩ := k
  have hA := ((ok_C_fault A).le (by decide : 0 ≤ 30)).sc sc (by decide)
  have hB := ((ok_M_fault B).le (by decide : 0 ≤ 30)).sc sc (by decide)
  exact law_sw (by decide) rfl (t := 263) (by decide) (law_case_3 hL31 hi hLR (hpC10 s) (hpM10 t) hA hB (fun HS' hLR' => fin s t HS' hR' hLR'))
set_option maxRecDepth 100000 in
theorem law_do_4 (hL31 : sc.length < 2 ^ 31) (hi : i + 6 ≤ sc.length) (hLR : LR (hp shC s) (hp shM t) HS) (k : stepOK_4 R s t (sc.getD (i + 1) 0)) (fin : ∀ (s' t' : sg) (HS' : mH), R s' t' → LR (hp shC s') (hp shM t') HS' → mFin sc 31 nc ns (1441, lawL i, [], HS', nc, ns)) : mFin sc 31 nc ns (33, lawL i, [.int (nI 4)], HS, nc, ns) := by
  obtain ⟨u, w, A, B, hR'⟩ := k
  have hA := ((ok_C_rule A).le (by decide : 2 ≤ 30)).sc sc (by decide)
  have hB := ((ok_M_rule B).le (by decide : 1 ≤ 30)).sc sc (by decide)
  exact law_sw (by decide) rfl (t := 276) (by decide) (law_case_4 hL31 hi hLR (hpC10 s) (hpM10 t) hA hB (fun HS' hLR' => fin s t HS' hR' hLR'))
set_option maxRecDepth 100000 in
theorem law_do_5 (hL31 : sc.length < 2 ^ 31) (hi : i + 6 ≤ sc.length) (hLR : LR (hp shC s) (hp shM t) HS) (k : stepOK_5 R s t (sc.getD (i + 1) 0) (sc.getD (i + 2) 0)) (fin : ∀ (s' t' : sg) (HS' : mH), R s' t' → LR (hp shC s') (hp shM t') HS' → mFin sc 31 nc ns (1441, lawL i, [], HS', nc, ns)) : mFin sc 31 nc ns (33, lawL i, [.int (nI 5)], HS, nc, ns) := by
  obtain ⟨u, w, A, B, hR'⟩ := k
  have hA := ((ok_C_room A).le (by decide : 2 ≤ 30)).sc sc (by decide)
  have hB := ((ok_M_room B).le (by decide : 2 ≤ 30)).sc sc (by decide)
  exact law_sw (by decide) rfl (t := 299) (by decide) (law_case_5 hL31 hi hLR (hpC10 s) (hpM10 t) hA hB (fun HS' hLR' => fin s t HS' hR' hLR'))
set_option maxRecDepth 100000 in
theorem law_do_6 (hL31 : sc.length < 2 ^ 31) (hi : i + 6 ≤ sc.length) (hLR : LR (hp shC s) (hp shM t) HS) (k : stepOK_6 R s t (sc.getD (i + 1) 0)) (fin : ∀ (s' t' : sg) (HS' : mH), R s' t' → LR (hp shC s') (hp shM t') HS' → mFin sc 31 nc ns (1441, lawL i, [], HS', nc, ns)) : mFin sc 31 nc ns (33, lawL i, [.int (nI 6)], HS, nc, ns) := by
  obtain ⟨u, w, A, B, hR'⟩ := k
  have hA := ((ok_C_wall A).le (by decide : 1 ≤ 30)).sc sc (by decide)
  have hB := ((ok_M_wall B).le (by decide : 2 ≤ 30)).sc sc (by decide)
  exact law_sw (by decide) rfl (t := 332) (by decide) (law_case_6 hL31 hi hLR (hpC10 s) (hpM10 t) hA hB (fun HS' hLR' => fin s t HS' hR' hLR'))
set_option maxRecDepth 100000 in
theorem law_do_7 (hL31 : sc.length < 2 ^ 31) (hi : i + 6 ≤ sc.length) (hLR : LR (hp shC s) (hp shM t) HS) (k : stepOK_7 R s t (sc.getD (i + 1) 0)) (fin : ∀ (s' t' : sg) (HS' : mH), R s' t' → LR (hp shC s') (hp shM t') HS' → mFin sc 31 nc ns (1441, lawL i, [], HS', nc, ns)) : mFin sc 31 nc ns (33, lawL i, [.int (nI 7)], HS, nc, ns) := by
  obtain ⟨u, w, A, B, hR'⟩ := k
  have hA := ((ok_C_outside A).le (by decide : 1 ≤ 30)).sc sc (by decide)
  have hB := ((ok_M_outside B).le (by decide : 1 ≤ 30)).sc sc (by decide)
  exact law_sw (by decide) rfl (t := 355) (by decide) (law_case_7 hL31 hi hLR (hpC10 s) (hpM10 t) hA hB (fun HS' hLR' => fin s t HS' hR' hLR'))
set_option maxRecDepth 100000 in
theorem law_do_8 (hL31 : sc.length < 2 ^ 31) (hi : i + 6 ≤ sc.length) (hLR : LR (hp shC s) (hp shM t) HS) (k : stepOK_8 R s t (sc.getD (i + 1) 0) (sc.getD (i + 2) 0) (sc.getD (i + 3) 0)) (fin : ∀ (s' t' : sg) (HS' : mH), R s' t' → LR (hp shC s') (hp shM t') HS' → mFin sc 31 nc ns (1441, lawL i, [], HS', nc, ns)) : mFin sc 31 nc ns (33, lawL i, [.int (nI 8)], HS, nc, ns) := by
  obtain ⟨u, w, s', t', A, B, hR'⟩ := k
  have hA := ((ok_C_alter A).le (by decide : 1 ≤ 30)).sc sc (by decide)
  have hB := ((ok_M_alter B).le (by decide : 2 ≤ 30)).sc sc (by decide)
  exact law_sw (by decide) rfl (t := 378) (by decide) (law_case_8 hL31 hi hLR (hpC10 s) (hpM10 t) hA hB (fun HS' hLR' => fin s' t' HS' hR' hLR'))
set_option maxRecDepth 100000 in
theorem law_do_9 (hL31 : sc.length < 2 ^ 31) (hi : i + 6 ≤ sc.length) (hLR : LR (hp shC s) (hp shM t) HS) (k : stepOK_9 R s t (sc.getD (i + 1) 0) (sc.getD (i + 2) 0) (sc.getD (i + 3) 0)) (fin : ∀ (s' t' : sg) (HS' : mH), R s' t' → LR (hp shC s') (hp shM t') HS' → mFin sc 31 nc ns (1441, lawL i, [], HS', nc, ns)) : mFin sc 31 nc ns (33, lawL i, [.int (nI 9)], HS, nc, ns) := by
  obtain ⟨u, w, s', t', A, B, hR'⟩ := k
  have hA := ((ok_C_fit A).le (by decide : 1 ≤ 30)).sc sc (by decide)
  have hB := ((ok_M_fit B).le (by decide : 2 ≤ 30)).sc sc (by decide)
  exact law_sw (by decide) rfl (t := 421) (by decide) (law_case_9 hL31 hi hLR (hpC10 s) (hpM10 t) hA hB (fun HS' hLR' => fin s' t' HS' hR' hLR'))
set_option maxRecDepth 100000 in
theorem law_do_10 (hL31 : sc.length < 2 ^ 31) (hi : i + 6 ≤ sc.length) (hLR : LR (hp shC s) (hp shM t) HS) (k : stepOK_10 R s t (sc.getD (i + 1) 0)) (fin : ∀ (s' t' : sg) (HS' : mH), R s' t' → LR (hp shC s') (hp shM t') HS' → mFin sc 31 nc ns (1441, lawL i, [], HS', nc, ns)) : mFin sc 31 nc ns (33, lawL i, [.int (nI 10)], HS, nc, ns) := by
  obtain ⟨u, w, s', t', A, B, hR'⟩ := k
  have hA := ((ok_C_strip A).le (by decide : 1 ≤ 30)).sc sc (by decide)
  have hB := ((ok_M_strip B).le (by decide : 2 ≤ 30)).sc sc (by decide)
  exact law_sw (by decide) rfl (t := 464) (by decide) (law_case_10 hL31 hi hLR (hpC10 s) (hpM10 t) hA hB (fun HS' hLR' => fin s' t' HS' hR' hLR'))
set_option maxRecDepth 100000 in
theorem law_do_11 (hL31 : sc.length < 2 ^ 31) (hi : i + 6 ≤ sc.length) (hLR : LR (hp shC s) (hp shM t) HS) (k : stepOK_11 R s t (sc.getD (i + 1) 0) (sc.getD (i + 2) 0)) (fin : ∀ (s' t' : sg) (HS' : mH), R s' t' → LR (hp shC s') (hp shM t') HS' → mFin sc 31 nc ns (1441, lawL i, [], HS', nc, ns)) : mFin sc 31 nc ns (33, lawL i, [.int (nI 11)], HS, nc, ns) := by
  obtain ⟨u, w, s', t', A, B, hR'⟩ := k
  have hA := ((ok_C_mark A).le (by decide : 2 ≤ 30)).sc sc (by decide)
  have hB := ((ok_M_mark B).le (by decide : 3 ≤ 30)).sc sc (by decide)
  exact law_sw (by decide) rfl (t := 487) (by decide) (law_case_11 hL31 hi hLR (hpC10 s) (hpM10 t) hA hB (fun HS' hLR' => fin s' t' HS' hR' hLR'))
set_option maxRecDepth 100000 in
theorem law_do_12 (hL31 : sc.length < 2 ^ 31) (hi : i + 6 ≤ sc.length) (hLR : LR (hp shC s) (hp shM t) HS) (k : stepOK_12 R s t (sc.getD (i + 1) 0) (sc.getD (i + 2) 0)) (fin : ∀ (s' t' : sg) (HS' : mH), R s' t' → LR (hp shC s') (hp shM t') HS' → mFin sc 31 nc ns (1441, lawL i, [], HS', nc, ns)) : mFin sc 31 nc ns (33, lawL i, [.int (nI 12)], HS, nc, ns) := by
  obtain ⟨u, w, s', t', A, B, hR'⟩ := k
  have hA := ((ok_C_lag A).le (by decide : 1 ≤ 30)).sc sc (by decide)
  have hB := ((ok_M_lag B).le (by decide : 2 ≤ 30)).sc sc (by decide)
  exact law_sw (by decide) rfl (t := 520) (by decide) (law_case_12 hL31 hi hLR (hpC10 s) (hpM10 t) hA hB (fun HS' hLR' => fin s' t' HS' hR' hLR'))
set_option maxRecDepth 100000 in
theorem law_do_13 (hL31 : sc.length < 2 ^ 31) (hi : i + 6 ≤ sc.length) (hLR : LR (hp shC s) (hp shM t) HS) (k : stepOK_13 R s t (sc.getD (i + 1) 0) (sc.getD (i + 2) 0)) (fin : ∀ (s' t' : sg) (HS' : mH), R s' t' → LR (hp shC s') (hp shM t') HS' → mFin sc 31 nc ns (1441, lawL i, [], HS', nc, ns)) : mFin sc 31 nc ns (33, lawL i, [.int (nI 13)], HS, nc, ns) := by
  obtain ⟨u, w, s', t', A, B, hR'⟩ := k
  have hA := ((ok_C_sky A).le (by decide : 1 ≤ 30)).sc sc (by decide)
  have hB := ((ok_M_sky B).le (by decide : 1 ≤ 30)).sc sc (by decide)
  exact law_sw (by decide) rfl (t := 553) (by decide) (law_case_13 hL31 hi hLR (hpC10 s) (hpM10 t) hA hB (fun HS' hLR' => fin s' t' HS' hR' hLR'))
set_option maxRecDepth 100000 in
theorem law_do_14 (hL31 : sc.length < 2 ^ 31) (hi : i + 6 ≤ sc.length) (hLR : LR (hp shC s) (hp shM t) HS) (k : stepOK_14 R s t (sc.getD (i + 1) 0)) (fin : ∀ (s' t' : sg) (HS' : mH), R s' t' → LR (hp shC s') (hp shM t') HS' → mFin sc 31 nc ns (1441, lawL i, [], HS', nc, ns)) : mFin sc 31 nc ns (33, lawL i, [.int (nI 14)], HS, nc, ns) := by
  obtain ⟨u, w, s', t', A, B, hR'⟩ := k
  have hA := ((ok_C_hours A).le (by decide : 5 ≤ 30)).sc sc (by decide)
  have hB := ((ok_M_hours B).le (by decide : 4 ≤ 30)).sc sc (by decide)
  exact law_sw (by decide) rfl (t := 586) (by decide) (law_case_14 hL31 hi hLR (hpC10 s) (hpM10 t) hA hB (fun HS' hLR' => fin s' t' HS' hR' hLR'))
set_option maxRecDepth 100000 in
theorem law_do_15 (hL31 : sc.length < 2 ^ 31) (hi : i + 6 ≤ sc.length) (hLR : LR (hp shC s) (hp shM t) HS) (k : stepOK_15 R s t (sc.getD (i + 1) 0) (sc.getD (i + 2) 0)) (fin : ∀ (s' t' : sg) (HS' : mH), R s' t' → LR (hp shC s') (hp shM t') HS' → mFin sc 31 nc ns (1441, lawL i, [], HS', nc, ns)) : mFin sc 31 nc ns (33, lawL i, [.int (nI 15)], HS, nc, ns) := by
  obtain ⟨u, w, s', t', A, B, hR'⟩ := k
  have hA := ((ok_C_runs A).le (by decide : 5 ≤ 30)).sc sc (by decide)
  have hB := ((ok_M_runs B).le (by decide : 5 ≤ 30)).sc sc (by decide)
  exact law_sw (by decide) rfl (t := 609) (by decide) (law_case_15 hL31 hi hLR (hpC10 s) (hpM10 t) hA hB (fun HS' hLR' => fin s' t' HS' hR' hLR'))
set_option maxRecDepth 100000 in
theorem law_do_16 (hL31 : sc.length < 2 ^ 31) (hi : i + 6 ≤ sc.length) (hLR : LR (hp shC s) (hp shM t) HS) (k : stepOK_16 R s t (sc.getD (i + 1) 0) (sc.getD (i + 2) 0) (sc.getD (i + 3) 0)) (fin : ∀ (s' t' : sg) (HS' : mH), R s' t' → LR (hp shC s') (hp shM t') HS' → mFin sc 31 nc ns (1441, lawL i, [], HS', nc, ns)) : mFin sc 31 nc ns (33, lawL i, [.int (nI 16)], HS, nc, ns) := by
  obtain ⟨u, w, s', t', A, B, hR'⟩ := k
  have hA := ((ok_C_ahead A).le (by decide : 5 ≤ 30)).sc sc (by decide)
  have hB := ((ok_M_ahead B).le (by decide : 5 ≤ 30)).sc sc (by decide)
  exact law_sw (by decide) rfl (t := 642) (by decide) (law_case_16 hL31 hi hLR (hpC10 s) (hpM10 t) hA hB (fun HS' hLR' => fin s' t' HS' hR' hLR'))
set_option maxRecDepth 100000 in
theorem law_do_17 (hL31 : sc.length < 2 ^ 31) (hi : i + 6 ≤ sc.length) (hLR : LR (hp shC s) (hp shM t) HS) (k : stepOK_17 R s t (sc.getD (i + 1) 0) (sc.getD (i + 2) 0)) (fin : ∀ (s' t' : sg) (HS' : mH), R s' t' → LR (hp shC s') (hp shM t') HS' → mFin sc 31 nc ns (1441, lawL i, [], HS', nc, ns)) : mFin sc 31 nc ns (33, lawL i, [.int (nI 17)], HS, nc, ns) := by
  obtain ⟨u, w, s', t', A, B, hR'⟩ := k
  have hA := ((ok_C_cold A).le (by decide : 4 ≤ 30)).sc sc (by decide)
  have hB := ((ok_M_cold B).le (by decide : 4 ≤ 30)).sc sc (by decide)
  exact law_sw (by decide) rfl (t := 685) (by decide) (law_case_17 hL31 hi hLR (hpC10 s) (hpM10 t) hA hB (fun HS' hLR' => fin s' t' HS' hR' hLR'))
set_option maxRecDepth 100000 in
theorem law_do_18 (hL31 : sc.length < 2 ^ 31) (hi : i + 6 ≤ sc.length) (hLR : LR (hp shC s) (hp shM t) HS) (k : stepOK_18 R s t) (fin : ∀ (s' t' : sg) (HS' : mH), R s' t' → LR (hp shC s') (hp shM t') HS' → mFin sc 31 nc ns (1441, lawL i, [], HS', nc, ns)) : mFin sc 31 nc ns (33, lawL i, [.int (nI 18)], HS, nc, ns) := by
  obtain ⟨u, w, s', t', A, B, hR'⟩ := k
  have hA := ((ok_C_again A).le (by decide : 5 ≤ 30)).sc sc (by decide)
  have hB := ((ok_M_again B).le (by decide : 4 ≤ 30)).sc sc (by decide)
  exact law_sw (by decide) rfl (t := 718) (by decide) (law_case_18 hL31 hi hLR (hpC10 s) (hpM10 t) hA hB (fun HS' hLR' => fin s' t' HS' hR' hLR'))
set_option maxRecDepth 100000 in
theorem law_do_19 (hL31 : sc.length < 2 ^ 31) (hi : i + 6 ≤ sc.length) (hLR : LR (hp shC s) (hp shM t) HS) (k : stepOK_19 R s t (sc.getD (i + 1) 0) (sc.getD (i + 2) 0) (sc.getD (i + 3) 0)) (fin : ∀ (s' t' : sg) (HS' : mH), R s' t' → LR (hp shC s') (hp shM t') HS' → mFin sc 31 nc ns (1441, lawL i, [], HS', nc, ns)) : mFin sc 31 nc ns (33, lawL i, [.int (nI 19)], HS, nc, ns) := by
  obtain ⟨u, w, s', t', A, B, hR'⟩ := k
  have hA := ((ok_C_need A).le (by decide : 5 ≤ 30)).sc sc (by decide)
  have hB := ((ok_M_need B).le (by decide : 5 ≤ 30)).sc sc (by decide)
  exact law_sw (by decide) rfl (t := 731) (by decide) (law_case_19 hL31 hi hLR (hpC10 s) (hpM10 t) hA hB (fun HS' hLR' => fin s' t' HS' hR' hLR'))
set_option maxRecDepth 100000 in
theorem law_do_20 (hL31 : sc.length < 2 ^ 31) (hi : i + 6 ≤ sc.length) (hLR : LR (hp shC s) (hp shM t) HS) (k : stepOK_20 R s t (sc.getD (i + 1) 0) (sc.getD (i + 2) 0) (sc.getD (i + 3) 0)) (fin : ∀ (s' t' : sg) (HS' : mH), R s' t' → LR (hp shC s') (hp shM t') HS' → mFin sc 31 nc ns (1441, lawL i, [], HS', nc, ns)) : mFin sc 31 nc ns (33, lawL i, [.int (nI 20)], HS, nc, ns) := by
  obtain ⟨u, w, s', t', A, B, hR'⟩ := k
  have hA := ((ok_C_kind A).le (by decide : 5 ≤ 30)).sc sc (by decide)
  have hB := ((ok_M_kind B).le (by decide : 5 ≤ 30)).sc sc (by decide)
  exact law_sw (by decide) rfl (t := 774) (by decide) (law_case_20 hL31 hi hLR (hpC10 s) (hpM10 t) hA hB (fun HS' hLR' => fin s' t' HS' hR' hLR'))
set_option maxRecDepth 100000 in
theorem law_do_21 (hL31 : sc.length < 2 ^ 31) (hi : i + 6 ≤ sc.length) (hLR : LR (hp shC s) (hp shM t) HS) (k : stepOK_21 R s t (sc.getD (i + 1) 0) (sc.getD (i + 2) 0)) (fin : ∀ (s' t' : sg) (HS' : mH), R s' t' → LR (hp shC s') (hp shM t') HS' → mFin sc 31 nc ns (1441, lawL i, [], HS', nc, ns)) : mFin sc 31 nc ns (33, lawL i, [.int (nI 21)], HS, nc, ns) := by
  obtain ⟨u, w, s', t', A, B, hR'⟩ := k
  have hA := ((ok_C_swap A).le (by decide : 5 ≤ 30)).sc sc (by decide)
  have hB := ((ok_M_swap B).le (by decide : 5 ≤ 30)).sc sc (by decide)
  exact law_sw (by decide) rfl (t := 817) (by decide) (law_case_21 hL31 hi hLR (hpC10 s) (hpM10 t) hA hB (fun HS' hLR' => fin s' t' HS' hR' hLR'))
set_option maxRecDepth 100000 in
theorem law_do_22 (hL31 : sc.length < 2 ^ 31) (hi : i + 6 ≤ sc.length) (hLR : LR (hp shC s) (hp shM t) HS) (k : stepOK_22 R s t (sc.getD (i + 1) 0) (sc.getD (i + 2) 0)) (fin : ∀ (s' t' : sg) (HS' : mH), R s' t' → LR (hp shC s') (hp shM t') HS' → mFin sc 31 nc ns (1441, lawL i, [], HS', nc, ns)) : mFin sc 31 nc ns (33, lawL i, [.int (nI 22)], HS, nc, ns) := by
  obtain ⟨u, w, s', t', A, B, hR'⟩ := k
  have hA := ((ok_C_seal A).le (by decide : 5 ≤ 30)).sc sc (by decide)
  have hB := ((ok_M_seal B).le (by decide : 5 ≤ 30)).sc sc (by decide)
  exact law_sw (by decide) rfl (t := 850) (by decide) (law_case_22 hL31 hi hLR (hpC10 s) (hpM10 t) hA hB (fun HS' hLR' => fin s' t' HS' hR' hLR'))
set_option maxRecDepth 100000 in
theorem law_do_23 (hL31 : sc.length < 2 ^ 31) (hi : i + 6 ≤ sc.length) (hLR : LR (hp shC s) (hp shM t) HS) (k : stepOK_23 R s t (sc.getD (i + 1) 0) (sc.getD (i + 2) 0) (sc.getD (i + 3) 0)) (fin : ∀ (s' t' : sg) (HS' : mH), R s' t' → LR (hp shC s') (hp shM t') HS' → mFin sc 31 nc ns (1441, lawL i, [], HS', nc, ns)) : mFin sc 31 nc ns (33, lawL i, [.int (nI 23)], HS, nc, ns) := by
  obtain ⟨u, w, s', t', A, B, hR'⟩ := k
  have hA := ((ok_C_spare A).le (by decide : 5 ≤ 30)).sc sc (by decide)
  have hB := ((ok_M_spare B).le (by decide : 5 ≤ 30)).sc sc (by decide)
  exact law_sw (by decide) rfl (t := 883) (by decide) (law_case_23 hL31 hi hLR (hpC10 s) (hpM10 t) hA hB (fun HS' hLR' => fin s' t' HS' hR' hLR'))
set_option maxRecDepth 100000 in
theorem law_do_24 (hL31 : sc.length < 2 ^ 31) (hi : i + 6 ≤ sc.length) (hLR : LR (hp shC s) (hp shM t) HS) (k : stepOK_24 R s t (sc.getD (i + 1) 0) (sc.getD (i + 2) 0) (sc.getD (i + 3) 0) (sc.getD (i + 4) 0) (sc.getD (i + 5) 0)) (fin : ∀ (s' t' : sg) (HS' : mH), R s' t' → LR (hp shC s') (hp shM t') HS' → mFin sc 31 nc ns (1441, lawL i, [], HS', nc, ns)) : mFin sc 31 nc ns (33, lawL i, [.int (nI 24)], HS, nc, ns) := by
  obtain ⟨u, w, s', t', A, B, hR'⟩ := k
  have hA := ((ok_C_luck A).le (by decide : 14 ≤ 30)).sc sc (by decide)
  have hB := ((ok_M_luck B).le (by decide : 4 ≤ 30)).sc sc (by decide)
  exact law_sw (by decide) rfl (t := 926) (by decide) (law_case_24 hL31 hi hLR (hpC10 s) (hpM10 t) hA hB (fun HS' hLR' => fin s' t' HS' hR' hLR'))
set_option maxRecDepth 100000 in
theorem law_do_25 (hL31 : sc.length < 2 ^ 31) (hi : i + 6 ≤ sc.length) (hLR : LR (hp shC s) (hp shM t) HS) (k : stepOK_25 R s t (sc.getD (i + 1) 0) (sc.getD (i + 2) 0) (sc.getD (i + 3) 0)) (fin : ∀ (s' t' : sg) (HS' : mH), R s' t' → LR (hp shC s') (hp shM t') HS' → mFin sc 31 nc ns (1441, lawL i, [], HS', nc, ns)) : mFin sc 31 nc ns (33, lawL i, [.int (nI 25)], HS, nc, ns) := by
  obtain ⟨u, w, s', t', A, B, hR'⟩ := k
  have hA := ((ok_C_mean A).le (by decide : 14 ≤ 30)).sc sc (by decide)
  have hB := ((ok_M_mean B).le (by decide : 4 ≤ 30)).sc sc (by decide)
  exact law_sw (by decide) rfl (t := 989) (by decide) (law_case_25 hL31 hi hLR (hpC10 s) (hpM10 t) hA hB (fun HS' hLR' => fin s' t' HS' hR' hLR'))
set_option maxRecDepth 100000 in
theorem law_do_26 (hL31 : sc.length < 2 ^ 31) (hi : i + 6 ≤ sc.length) (hLR : LR (hp shC s) (hp shM t) HS) (k : stepOK_26 R s t (sc.getD (i + 1) 0) (sc.getD (i + 2) 0) (sc.getD (i + 3) 0)) (fin : ∀ (s' t' : sg) (HS' : mH), R s' t' → LR (hp shC s') (hp shM t') HS' → mFin sc 31 nc ns (1441, lawL i, [], HS', nc, ns)) : mFin sc 31 nc ns (33, lawL i, [.int (nI 26)], HS, nc, ns) := by
  obtain ⟨u, w, s', t', A, B, hR'⟩ := k
  have hA := ((ok_C_see A).le (by decide : 1 ≤ 30)).sc sc (by decide)
  have hB := ((ok_M_see B).le (by decide : 2 ≤ 30)).sc sc (by decide)
  exact law_sw (by decide) rfl (t := 1032) (by decide) (law_case_26 hL31 hi hLR (hpC10 s) (hpM10 t) hA hB (fun HS' hLR' => fin s' t' HS' hR' hLR'))
set_option maxRecDepth 100000 in
theorem law_do_27 (hL31 : sc.length < 2 ^ 31) (hi : i + 6 ≤ sc.length) (hLR : LR (hp shC s) (hp shM t) HS) (k : stepOK_27 R s t (sc.getD (i + 1) 0)) (fin : ∀ (s' t' : sg) (HS' : mH), R s' t' → LR (hp shC s') (hp shM t') HS' → mFin sc 31 nc ns (1441, lawL i, [], HS', nc, ns)) : mFin sc 31 nc ns (33, lawL i, [.int (nI 27)], HS, nc, ns) := by
  obtain ⟨u, w, s', t', A, B, hR'⟩ := k
  have hA := ((ok_C_forget A).le (by decide : 1 ≤ 30)).sc sc (by decide)
  have hB := ((ok_M_forget B).le (by decide : 1 ≤ 30)).sc sc (by decide)
  exact law_sw (by decide) rfl (t := 1075) (by decide) (law_case_27 hL31 hi hLR (hpC10 s) (hpM10 t) hA hB (fun HS' hLR' => fin s' t' HS' hR' hLR'))
set_option maxRecDepth 100000 in
theorem law_do_28 (hL31 : sc.length < 2 ^ 31) (hi : i + 6 ≤ sc.length) (hLR : LR (hp shC s) (hp shM t) HS) (k : stepOK_28 R s t (sc.getD (i + 1) 0)) (fin : ∀ (s' t' : sg) (HS' : mH), R s' t' → LR (hp shC s') (hp shM t') HS' → mFin sc 31 nc ns (1441, lawL i, [], HS', nc, ns)) : mFin sc 31 nc ns (33, lawL i, [.int (nI 28)], HS, nc, ns) := by
  obtain ⟨u, w, s', t', A, B, hR'⟩ := k
  have hA := ((ok_C_kinds A).le (by decide : 5 ≤ 30)).sc sc (by decide)
  have hB := ((ok_M_kinds B).le (by decide : 6 ≤ 30)).sc sc (by decide)
  exact law_sw (by decide) rfl (t := 1098) (by decide) (law_case_28 hL31 hi hLR (hpC10 s) (hpM10 t) hA hB (fun HS' hLR' => fin s' t' HS' hR' hLR'))
set_option maxRecDepth 100000 in
theorem law_do_29 (hL31 : sc.length < 2 ^ 31) (hi : i + 6 ≤ sc.length) (hLR : LR (hp shC s) (hp shM t) HS) (k : stepOK_29 R s t (sc.getD (i + 1) 0)) (fin : ∀ (s' t' : sg) (HS' : mH), R s' t' → LR (hp shC s') (hp shM t') HS' → mFin sc 31 nc ns (1441, lawL i, [], HS', nc, ns)) : mFin sc 31 nc ns (33, lawL i, [.int (nI 29)], HS, nc, ns) := by
  obtain ⟨u, s', t', A, B, hR'⟩ := k
  have hA := ((ok_C_lets A).le (by decide : 6 ≤ 30)).sc sc (by decide)
  have hB := ((ok_M_lets B).le (by decide : 6 ≤ 30)).sc sc (by decide)
  exact law_sw (by decide) rfl (t := 1121) (by decide) (law_case_29 hL31 hi hLR (hpC10 s) (hpM10 t) hA hB (fun HS' hLR' => fin s' t' HS' hR' hLR'))
set_option maxRecDepth 100000 in
theorem law_do_30 (hL31 : sc.length < 2 ^ 31) (hi : i + 6 ≤ sc.length) (hLR : LR (hp shC s) (hp shM t) HS) (k : stepOK_30 R s t (sc.getD (i + 1) 0) (sc.getD (i + 2) 0)) (fin : ∀ (s' t' : sg) (HS' : mH), R s' t' → LR (hp shC s') (hp shM t') HS' → mFin sc 31 nc ns (1441, lawL i, [], HS', nc, ns)) : mFin sc 31 nc ns (33, lawL i, [.int (nI 30)], HS, nc, ns) := by
  obtain ⟨u, w, s', t', A, B, hR'⟩ := k
  have hA := ((ok_C_ask A).le (by decide : 6 ≤ 30)).sc sc (by decide)
  have hB := ((ok_M_ask B).le (by decide : 6 ≤ 30)).sc sc (by decide)
  exact law_sw (by decide) rfl (t := 1144) (by decide) (law_case_30 hL31 hi hLR (hpC10 s) (hpM10 t) hA hB (fun HS' hLR' => fin s' t' HS' hR' hLR'))
set_option maxRecDepth 100000 in
theorem law_do_31 (hL31 : sc.length < 2 ^ 31) (hi : i + 6 ≤ sc.length) (hLR : LR (hp shC s) (hp shM t) HS) (k : stepOK_31 R s t (sc.getD (i + 1) 0) (sc.getD (i + 2) 0) (sc.getD (i + 3) 0)) (fin : ∀ (s' t' : sg) (HS' : mH), R s' t' → LR (hp shC s') (hp shM t') HS' → mFin sc 31 nc ns (1441, lawL i, [], HS', nc, ns)) : mFin sc 31 nc ns (33, lawL i, [.int (nI 31)], HS, nc, ns) := by
  obtain ⟨u, w, s', t', A, B, hR'⟩ := k
  have hA := ((ok_C_drift A).le (by decide : 3 ≤ 30)).sc sc (by decide)
  have hB := ((ok_M_drift B).le (by decide : 3 ≤ 30)).sc sc (by decide)
  exact law_sw (by decide) rfl (t := 1177) (by decide) (law_case_31 hL31 hi hLR (hpC10 s) (hpM10 t) hA hB (fun HS' hLR' => fin s' t' HS' hR' hLR'))
set_option maxRecDepth 100000 in
theorem law_do_32 (hL31 : sc.length < 2 ^ 31) (hi : i + 6 ≤ sc.length) (hLR : LR (hp shC s) (hp shM t) HS) (k : stepOK_32 R s t (sc.getD (i + 1) 0)) (fin : ∀ (s' t' : sg) (HS' : mH), R s' t' → LR (hp shC s') (hp shM t') HS' → mFin sc 31 nc ns (1441, lawL i, [], HS', nc, ns)) : mFin sc 31 nc ns (33, lawL i, [.int (nI 32)], HS, nc, ns) := by
  obtain ⟨u, w, s', t', A, B, hR'⟩ := k
  have hA := ((ok_C_keep A).le (by decide : 1 ≤ 30)).sc sc (by decide)
  have hB := ((ok_M_keep B).le (by decide : 1 ≤ 30)).sc sc (by decide)
  exact law_sw (by decide) rfl (t := 1220) (by decide) (law_case_32 hL31 hi hLR (hpC10 s) (hpM10 t) hA hB (fun HS' hLR' => fin s' t' HS' hR' hLR'))
set_option maxRecDepth 100000 in
theorem law_do_33 (hL31 : sc.length < 2 ^ 31) (hi : i + 6 ≤ sc.length) (hLR : LR (hp shC s) (hp shM t) HS) (k : stepOK_33 R s t (sc.getD (i + 1) 0)) (fin : ∀ (s' t' : sg) (HS' : mH), R s' t' → LR (hp shC s') (hp shM t') HS' → mFin sc 31 nc ns (1441, lawL i, [], HS', nc, ns)) : mFin sc 31 nc ns (33, lawL i, [.int (nI 33)], HS, nc, ns) := by
  obtain ⟨u, w, s', t', A, B, hR'⟩ := k
  have hA := ((ok_C_back A).le (by decide : 1 ≤ 30)).sc sc (by decide)
  have hB := ((ok_M_back B).le (by decide : 1 ≤ 30)).sc sc (by decide)
  exact law_sw (by decide) rfl (t := 1243) (by decide) (law_case_33 hL31 hi hLR (hpC10 s) (hpM10 t) hA hB (fun HS' hLR' => fin s' t' HS' hR' hLR'))
set_option maxRecDepth 100000 in
theorem law_do_34 (hL31 : sc.length < 2 ^ 31) (hi : i + 6 ≤ sc.length) (hLR : LR (hp shC s) (hp shM t) HS) (k : stepOK_34 R s t (sc.getD (i + 1) 0) (sc.getD (i + 2) 0) (sc.getD (i + 3) 0)) (fin : ∀ (s' t' : sg) (HS' : mH), R s' t' → LR (hp shC s') (hp shM t') HS' → mFin sc 31 nc ns (1441, lawL i, [], HS', nc, ns)) : mFin sc 31 nc ns (33, lawL i, [.int (nI 34)], HS, nc, ns) := by
  obtain ⟨u, w, s', t', A, B, hR'⟩ := k
  have hA := ((ok_C_sheet A).le (by decide : 1 ≤ 30)).sc sc (by decide)
  have hB := ((ok_M_sheet B).le (by decide : 1 ≤ 30)).sc sc (by decide)
  exact law_sw (by decide) rfl (t := 1266) (by decide) (law_case_34 hL31 hi hLR (hpC10 s) (hpM10 t) hA hB (fun HS' hLR' => fin s' t' HS' hR' hLR'))
set_option maxRecDepth 100000 in
theorem law_do_35 (hL31 : sc.length < 2 ^ 31) (hi : i + 6 ≤ sc.length) (hLR : LR (hp shC s) (hp shM t) HS) (k : stepOK_35 R s t (sc.getD (i + 1) 0) (sc.getD (i + 2) 0) (sc.getD (i + 3) 0)) (fin : ∀ (s' t' : sg) (HS' : mH), R s' t' → LR (hp shC s') (hp shM t') HS' → mFin sc 31 nc ns (1441, lawL i, [], HS', nc, ns)) : mFin sc 31 nc ns (33, lawL i, [.int (nI 35)], HS, nc, ns) := by
  obtain ⟨u, w, s', t', A, B, hR'⟩ := k
  have hA := ((ok_C_lay A).le (by decide : 2 ≤ 30)).sc sc (by decide)
  have hB := ((ok_M_lay B).le (by decide : 1 ≤ 30)).sc sc (by decide)
  exact law_sw (by decide) rfl (t := 1309) (by decide) (law_case_35 hL31 hi hLR (hpC10 s) (hpM10 t) hA hB (fun HS' hLR' => fin s' t' HS' hR' hLR'))
set_option maxRecDepth 100000 in
theorem law_do_36 (hL31 : sc.length < 2 ^ 31) (hi : i + 6 ≤ sc.length) (hLR : LR (hp shC s) (hp shM t) HS) (k : stepOK_36 R s t (sc.getD (i + 1) 0) (sc.getD (i + 2) 0) (sc.getD (i + 3) 0) (sc.getD (i + 4) 0)) (fin : ∀ (s' t' : sg) (HS' : mH), R s' t' → LR (hp shC s') (hp shM t') HS' → mFin sc 31 nc ns (1441, lawL i, [], HS', nc, ns)) : mFin sc 31 nc ns (33, lawL i, [.int (nI 36)], HS, nc, ns) := by
  obtain ⟨u, w, s', t', A, B, hR'⟩ := k
  have hA := ((ok_C_read A).le (by decide : 5 ≤ 30)).sc sc (by decide)
  have hB := ((ok_M_read B).le (by decide : 4 ≤ 30)).sc sc (by decide)
  exact law_sw (by decide) rfl (t := 1352) (by decide) (law_case_36 hL31 hi hLR (hpC10 s) (hpM10 t) hA hB (fun HS' hLR' => fin s' t' HS' hR' hLR'))
set_option maxRecDepth 100000 in
theorem law_do_37 (hL31 : sc.length < 2 ^ 31) (hi : i + 6 ≤ sc.length) (hLR : LR (hp shC s) (hp shM t) HS) (k : stepOK_37 R s t) (fin : ∀ (s' t' : sg) (HS' : mH), R s' t' → LR (hp shC s') (hp shM t') HS' → mFin sc 31 nc ns (1441, lawL i, [], HS', nc, ns)) : mFin sc 31 nc ns (33, lawL i, [.int (nI 37)], HS, nc, ns) := by
  obtain ⟨u, w, A, B, hR'⟩ := k
  have hA := ((ok_C_torn A).le (by decide : 0 ≤ 30)).sc sc (by decide)
  have hB := ((ok_M_torn B).le (by decide : 0 ≤ 30)).sc sc (by decide)
  exact law_sw (by decide) rfl (t := 1405) (by decide) (law_case_37 hL31 hi hLR (hpC10 s) (hpM10 t) hA hB (fun HS' hLR' => fin s t HS' hR' hLR'))
set_option maxRecDepth 100000 in
theorem law_do_38 (hL31 : sc.length < 2 ^ 31) (hi : i + 6 ≤ sc.length) (hLR : LR (hp shC s) (hp shM t) HS) (k : stepOK_38 R s t (sc.getD (i + 1) 0)) (fin : ∀ (s' t' : sg) (HS' : mH), R s' t' → LR (hp shC s') (hp shM t') HS' → mFin sc 31 nc ns (1441, lawL i, [], HS', nc, ns)) : mFin sc 31 nc ns (33, lawL i, [.int (nI 38)], HS, nc, ns) := by
  obtain ⟨u, w, A, B, hR'⟩ := k
  have hA := ((ok_C_count A).le (by decide : 1 ≤ 30)).sc sc (by decide)
  have hB := ((ok_M_count B).le (by decide : 0 ≤ 30)).sc sc (by decide)
  exact law_sw (by decide) rfl (t := 1418) (by decide) (law_case_38 hL31 hi hLR (hpC10 s) (hpM10 t) hA hB (fun HS' hLR' => fin s t HS' hR' hLR'))
end DO
end Q94
section Q94b
/-! the run -/
section ANY
variable {R : sg → sg → Prop} {sc : List Int32} {s t : sg} {HS : mH} {nc ns i : Nat}
theorem law_any (hL31 : sc.length < 2 ^ 31) (hi : i + 6 ≤ sc.length) (hLR : LR (hp shC s) (hp shM t) HS) (hOK : stepsOK R) (hR : R s t) (fin : ∀ (s' t' : sg) (HS' : mH), R s' t' → LR (hp shC s') (hp shM t') HS' → mFin sc 31 nc ns (1441, lawL i, [], HS', nc, ns)) (j : Nat) (hj : j < 39) : mFin sc 31 nc ns (33, lawL i, [.int (nI j)], HS, nc, ns) := by
  obtain ⟨k0, k1, k2, k3, k4, k5, k6, k7, k8, k9, k10, k11, k12, k13, k14, k15, k16, k17, k18, k19, k20, k21, k22, k23, k24, k25, k26, k27, k28, k29, k30, k31, k32, k33, k34, k35, k36, k37, k38⟩ := hOK s t hR (sc.getD (i + 1) 0) (sc.getD (i + 2) 0) (sc.getD (i + 3) 0) (sc.getD (i + 4) 0) (sc.getD (i + 5) 0)
  clear hOK hR
  obtain rfl | hj := Nat.lt_succ_iff_lt_or_eq.mp hj |>.symm
  · exact law_do_38 hL31 hi hLR k38 fin
  obtain rfl | hj := Nat.lt_succ_iff_lt_or_eq.mp hj |>.symm
  · exact law_do_37 hL31 hi hLR k37 fin
  obtain rfl | hj := Nat.lt_succ_iff_lt_or_eq.mp hj |>.symm
  · exact law_do_36 hL31 hi hLR k36 fin
  obtain rfl | hj := Nat.lt_succ_iff_lt_or_eq.mp hj |>.symm
  · exact law_do_35 hL31 hi hLR k35 fin
  obtain rfl | hj := Nat.lt_succ_iff_lt_or_eq.mp hj |>.symm
  · exact law_do_34 hL31 hi hLR k34 fin
  obtain rfl | hj := Nat.lt_succ_iff_lt_or_eq.mp hj |>.symm
  · exact law_do_33 hL31 hi hLR k33 fin
  obtain rfl | hj := Nat.lt_succ_iff_lt_or_eq.mp hj |>.symm
  · exact law_do_32 hL31 hi hLR k32 fin
  obtain rfl | hj := Nat.lt_succ_iff_lt_or_eq.mp hj |>.symm
  · exact law_do_31 hL31 hi hLR k31 fin
  obtain rfl | hj := Nat.lt_succ_iff_lt_or_eq.mp hj |>.symm
  · exact law_do_30 hL31 hi hLR k30 fin
  obtain rfl | hj := Nat.lt_succ_iff_lt_or_eq.mp hj |>.symm
  · exact law_do_29 hL31 hi hLR k29 fin
  obtain rfl | hj := Nat.lt_succ_iff_lt_or_eq.mp hj |>.symm
  · exact law_do_28 hL31 hi hLR k28 fin
  obtain rfl | hj := Nat.lt_succ_iff_lt_or_eq.mp hj |>.symm
  · exact law_do_27 hL31 hi hLR k27 fin
  obtain rfl | hj := Nat.lt_succ_iff_lt_or_eq.mp hj |>.symm
  · exact law_do_26 hL31 hi hLR k26 fin
  obtain rfl | hj := Nat.lt_succ_iff_lt_or_eq.mp hj |>.symm
  · exact law_do_25 hL31 hi hLR k25 fin
  obtain rfl | hj := Nat.lt_succ_iff_lt_or_eq.mp hj |>.symm
  · exact law_do_24 hL31 hi hLR k24 fin
  obtain rfl | hj := Nat.lt_succ_iff_lt_or_eq.mp hj |>.symm
  · exact law_do_23 hL31 hi hLR k23 fin
  obtain rfl | hj := Nat.lt_succ_iff_lt_or_eq.mp hj |>.symm
  · exact law_do_22 hL31 hi hLR k22 fin
  obtain rfl | hj := Nat.lt_succ_iff_lt_or_eq.mp hj |>.symm
  · exact law_do_21 hL31 hi hLR k21 fin
  obtain rfl | hj := Nat.lt_succ_iff_lt_or_eq.mp hj |>.symm
  · exact law_do_20 hL31 hi hLR k20 fin
  obtain rfl | hj := Nat.lt_succ_iff_lt_or_eq.mp hj |>.symm
  · exact law_do_19 hL31 hi hLR k19 fin
  obtain rfl | hj := Nat.lt_succ_iff_lt_or_eq.mp hj |>.symm
  · exact law_do_18 hL31 hi hLR k18 fin
  obtain rfl | hj := Nat.lt_succ_iff_lt_or_eq.mp hj |>.symm
  · exact law_do_17 hL31 hi hLR k17 fin
  obtain rfl | hj := Nat.lt_succ_iff_lt_or_eq.mp hj |>.symm
  · exact law_do_16 hL31 hi hLR k16 fin
  obtain rfl | hj := Nat.lt_succ_iff_lt_or_eq.mp hj |>.symm
  · exact law_do_15 hL31 hi hLR k15 fin
  obtain rfl | hj := Nat.lt_succ_iff_lt_or_eq.mp hj |>.symm
  · exact law_do_14 hL31 hi hLR k14 fin
  obtain rfl | hj := Nat.lt_succ_iff_lt_or_eq.mp hj |>.symm
  · exact law_do_13 hL31 hi hLR k13 fin
  obtain rfl | hj := Nat.lt_succ_iff_lt_or_eq.mp hj |>.symm
  · exact law_do_12 hL31 hi hLR k12 fin
  obtain rfl | hj := Nat.lt_succ_iff_lt_or_eq.mp hj |>.symm
  · exact law_do_11 hL31 hi hLR k11 fin
  obtain rfl | hj := Nat.lt_succ_iff_lt_or_eq.mp hj |>.symm
  · exact law_do_10 hL31 hi hLR k10 fin
  obtain rfl | hj := Nat.lt_succ_iff_lt_or_eq.mp hj |>.symm
  · exact law_do_9 hL31 hi hLR k9 fin
  obtain rfl | hj := Nat.lt_succ_iff_lt_or_eq.mp hj |>.symm
  · exact law_do_8 hL31 hi hLR k8 fin
  obtain rfl | hj := Nat.lt_succ_iff_lt_or_eq.mp hj |>.symm
  · exact law_do_7 hL31 hi hLR k7 fin
  obtain rfl | hj := Nat.lt_succ_iff_lt_or_eq.mp hj |>.symm
  · exact law_do_6 hL31 hi hLR k6 fin
  obtain rfl | hj := Nat.lt_succ_iff_lt_or_eq.mp hj |>.symm
  · exact law_do_5 hL31 hi hLR k5 fin
  obtain rfl | hj := Nat.lt_succ_iff_lt_or_eq.mp hj |>.symm
  · exact law_do_4 hL31 hi hLR k4 fin
  obtain rfl | hj := Nat.lt_succ_iff_lt_or_eq.mp hj |>.symm
  · exact law_do_3 hL31 hi hLR k3 fin
  obtain rfl | hj := Nat.lt_succ_iff_lt_or_eq.mp hj |>.symm
  · exact law_do_2 hL31 hi hLR k2 fin
  obtain rfl | hj := Nat.lt_succ_iff_lt_or_eq.mp hj |>.symm
  · exact law_do_1 hL31 hi hLR k1 fin
  obtain rfl | hj := Nat.lt_succ_iff_lt_or_eq.mp hj |>.symm
  · exact law_do_0 hL31 hi hLR k0 fin
  exact absurd hj (Nat.not_lt_zero j)
end ANY
theorem law_loop {R : sg → sg → Prop} (hOK : stepsOK R) {sc : List Int32} (hL30 : sc.length < 2 ^ 30) {nc ns : Nat} (n : Nat) : ∀ (i : Nat) (s t : sg) (HS : mH), sc.length < i + 6 * n → i < 2 ^ 30 → R s t → LR (hp shC s) (hp shM t) HS → mFin sc 31 nc ns (18, lawL i, [], HS, nc, ns) := by
  induction n with
  | zero => exact fun i s t HS hn hi2 hR hLR => law_out hL30 hi2 (by omega)
  | succ n ih =>
    intro i s t HS hn hi2 hR hLR
    by_cases hi : i + 6 ≤ sc.length
    · have hL31 : sc.length < 2 ^ 31 := by omega
      have fin : ∀ (s' t' : sg) (HS' : mH), R s' t' → LR (hp shC s') (hp shM t') HS' → mFin sc 31 nc ns (1441, lawL i, [], HS', nc, ns) := fun s' t' HS' h1 h2 => law_inc (ih (i + 6) s' t' HS' (by omega) (by omega) h1 h2)
      obtain ⟨j, hj, e⟩ := pk_andE (sc.getD i 0) (m := 63) 6 (by decide)
      refine law_in hL30 hi (law_which hL30 (by omega) e ?_)
      by_cases h39 : 39 ≤ j
      · exact law_skip hj h39 (fin s t HS hR hLR)
      · exact law_any hL31 hi hLR hOK hR fin j (by omega)
    · exact law_out hL30 hi2 (by omega)
end Q94b
section Q95
/-- the law up to its loop -/
theorem law_mid {sc : List Int32} {NC NS : Nat} {H H2 : mH} (hl : H.length = 141) (nm : mrun [] 300 10 110 (mentry 110 [.ref 141] (H ++ [.inr (5, mnew 5)])) = some (none, H2, 12, 2015)) (k : mFin sc 31 NC NS (18, lawL 0, [], H2, 144, 3205)) : mFin sc 31 NC NS (7, [some (.ref 0), none, none, none], [.ref 10], H, 131, 1161) := by
  refine mFin.steps 3 (q' := (12, [some (.ref 0), some (.ref 10), none, none], [.ref H.length, .ref H.length], H ++ [.inr (5, mnew 5)], 132, 1190)) rfl ?_
  rw [hl]
  refine mFin.call (d := 30) (y' := 110) (as := [.ref 141]) (q' := (15, [some (.ref 0), some (.ref 10), none, none], [.ref 141], H ++ [.inr (5, mnew 5)], 132, 1190)) rfl rfl (mEnds.sc sc (by decide) (mEnds.deep ⟨300, nm⟩ 20)) ?_
  show mFin sc 31 NC NS (15, [some (.ref 0), some (.ref 10), none, none], [.ref 141], H2, 144, 3205)
  exact mFin.steps 3 (q' := (18, lawL 0, [], H2, 144, 3205)) rfl k
theorem law_start {sc : List Int32} {NC NS : Nat} (k : mFin sc 31 NC NS (18, lawL 0, [], hp shC s0 ++ hMt, 144, 3205)) : mFin sc 31 NC NS (mentry 184 [.ref 0] (List.replicate 10 (.inl (0, [])))) := by
  refine mFin.steps 2 (q' := (4, [some (.ref 0), none, none, none], [.ref 10, .ref 10], hD ++ [.inr (4, mnew 4)], 1, 8)) rfl ?_
  have k2 := law_mid (hp_len shC s0) new_M k
  refine mFin.call (d := 30) (y' := 54) (as := [.ref 10]) (q' := (7, [some (.ref 0), none, none, none], [.ref 10], hD ++ [.inr (4, mnew 4)], 1, 8)) rfl rfl (mEnds.sc sc (by decide) (mEnds.deep ⟨1000, new_C⟩ 20)) ?_
  exact k2
theorem law_run {R : sg → sg → Prop} (hOK : stepsOK R) (h0 : R s0 t0) (sc : List Int32) (hL : sc.length ≤ 3072) : mFin sc 31 144 3205 (mentry 184 [.ref 0] (List.replicate 10 (.inl (0, [])))) :=
  law_start (law_loop hOK (by omega) 3072 0 s0 t0 _ (by omega) (by decide) h0 LR0)
end Q95
