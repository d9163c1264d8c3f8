section Q90
/-! runs that a program decides -/
def eqE (a b : mE) : Bool := match a, b with
  | .inl (k, xs), .inl (j, ys) => Nat.beq k j && decide (xs = ys)
  | .inr (k, xs), .inr (j, ys) => Nat.beq k j && decide (xs = ys)
  | _, _ => false
def eqH : mH → mH → Bool
  | [], [] => true
  | a :: as, b :: bs => eqE a b && eqH as bs
  | _, _ => false
def eqR (x : Option (Option Value × mH × Nat × Nat)) (v : Option Value) (hs : mH) (c s : Nat) : Bool := match x with
  | some (v', hs', c', s') => decide (v' = v) && (eqH hs' hs && (Nat.beq c' c && Nat.beq s' s))
  | none => false
theorem eqE_ok {a b : mE} (h : eqE a b = true) : a = b := by
  obtain ⟨k, xs⟩ | ⟨k, xs⟩ := a <;> obtain ⟨j, ys⟩ | ⟨j, ys⟩ := b
  · obtain ⟨h1, h2⟩ := mand h
    rw [beqN h1, of_decide_eq_true h2]
  · cases h
  · cases h
  · obtain ⟨h1, h2⟩ := mand h
    rw [beqN h1, of_decide_eq_true h2]
theorem eqH_ok : ∀ {a b : mH}, eqH a b = true → a = b
  | [], [], _ => rfl
  | [], _ :: _, h => by cases h
  | _ :: _, [], h => by cases h
  | a :: as, b :: bs, h => by
    obtain ⟨h1, h2⟩ := mand h
    rw [eqE_ok h1, eqH_ok h2]
theorem eqR_ok {x : Option (Option Value × mH × Nat × Nat)} {v : Option Value} {hs : mH} {c s : Nat} (h : eqR x v hs c s = true) : x = some (v, hs, c, s) := by
  obtain _ | ⟨v', hs', c', s'⟩ := x
  · cases h
  · obtain ⟨h1, h2⟩ := mand h
    obtain ⟨h2, h3⟩ := mand h2
    obtain ⟨h3, h4⟩ := mand h3
    rw [of_decide_eq_true h1, eqH_ok h2, beqN h3, beqN h4]
/-! the heaps of new objects -/
def s0T : List (List Int32) := [[], [], [], [], [], [], [], [], [], [], [0, 0, 0, 0, 0, 0, 0, 0], [0, 0, 0, 0, 0, 0, 0, 0, 0, 0, 0, 0], [0, 0, 0, 0, 0, 0], [0, 0, 0, 0, 0, 0], [0, 0, 0, 0, 0, 0], [(-1), (-1), (-1), (-1), (-1), (-1)], [0, 0, 0, 0, 0, 0], [2, 2, 2, 2, 2], [10, 10, 10, 10, 10, 10, 10, 10], [0, 0], [0, 0], [0, 0, 0, 0, 0, 0, 0, 0, 0, 0], [0, 0, 0, 0], [0, 0, 0, 0], [0, 0, 0, 0, 0, 0], [0, 0, 0, 0, 0, 0], [0, 0, 0, 0, 0, 0], [0, 0, 0, 0, 0, 0, 0, 0, 0, 0, 0], [], [0, 0, 0, 0, 0, 0, 0, 0, 0, 0, 0, 0], [0, 0, 0, 0, 0, 0], [0, 0, 0, 0, 0, 0], [0, 0, 0, 0, 0, 0], [(-1), (-1), (-1), (-1), (-1), (-1)], [0, 0, 0, 0, 0, 0], [2, 2, 2, 2, 2], [10, 10, 10, 10, 10, 10, 10, 10], [0, 0, 0, 0, 0, 0, 0, 0, 0, 0, 0, 0], [0, 0, 0, 0, 0, 0], [0, 0, 0, 0, 0, 0], [0, 0, 0, 0, 0, 0], [(-1), (-1), (-1), (-1), (-1), (-1)], [0, 0, 0, 0, 0, 0], [2, 2, 2, 2, 2], [10, 10, 10, 10, 10, 10, 10, 10], [0, 0, 0, 0, 0, 0, 0, 0, 0, 0, 0, 0], [0, 0, 0, 0, 0, 0], [0, 0, 0, 0, 0, 0], [0, 0, 0, 0, 0, 0], [(-1), (-1), (-1), (-1), (-1), (-1)], [0, 0, 0, 0, 0, 0], [2, 2, 2, 2, 2], [10, 10, 10, 10, 10, 10, 10, 10], [0, 0, 0, 0, 0, 0, 0, 0, 0, 0, 0, 0], [0, 0, 0, 0, 0, 0], [0, 0, 0, 0, 0, 0], [0, 0, 0, 0, 0, 0], [(-1), (-1), (-1), (-1), (-1), (-1)], [0, 0, 0, 0, 0, 0], [2, 2, 2, 2, 2], [10, 10, 10, 10, 10, 10, 10, 10], [0, 0, 0, 0, 0, 0, 0, 0, 0, 0, 0, 0], [0, 0, 0, 0, 0, 0], [0, 0, 0, 0, 0, 0], [0, 0, 0, 0, 0, 0], [(-1), (-1), (-1), (-1), (-1), (-1)], [0, 0, 0, 0, 0, 0], [2, 2, 2, 2, 2], [10, 10, 10, 10, 10, 10, 10, 10], [0, 0, 0, 0, 0, 0, 0, 0, 0, 0, 0, 0], [0, 0, 0, 0, 0, 0], [0, 0, 0, 0, 0, 0], [0, 0, 0, 0, 0, 0], [(-1), (-1), (-1), (-1), (-1), (-1)], [0, 0, 0, 0, 0, 0], [2, 2, 2, 2, 2], [10, 10, 10, 10, 10, 10, 10, 10], [0, 0, 0, 0, 0, 0, 0, 0, 0, 0, 0, 0], [0, 0, 0, 0, 0, 0], [0, 0, 0, 0, 0, 0], [0, 0, 0, 0, 0, 0], [(-1), (-1), (-1), (-1), (-1), (-1)], [0, 0, 0, 0, 0, 0], [2, 2, 2, 2, 2], [10, 10, 10, 10, 10, 10, 10, 10], [0, 0, 0, 0, 0, 0, 0, 0, 0, 0, 0, 0], [0, 0, 0, 0, 0, 0], [0, 0, 0, 0, 0, 0], [0, 0, 0, 0, 0, 0], [(-1), (-1), (-1), (-1), (-1), (-1)], [0, 0, 0, 0, 0, 0], [2, 2, 2, 2, 2], [10, 10, 10, 10, 10, 10, 10, 10], [0, 0, 0, 0, 0, 0, 0, 0, 0, 0, 0, 0], [0, 0, 0, 0, 0, 0], [0, 0, 0, 0, 0, 0], [0, 0, 0, 0, 0, 0], [(-1), (-1), (-1), (-1), (-1), (-1)], [0, 0, 0, 0, 0, 0], [2, 2, 2, 2, 2], [10, 10, 10, 10, 10, 10, 10, 10], [0, 0, 0, 0, 0, 0, 0, 0, 0, 0, 0, 0], [0, 0, 0, 0, 0, 0], [0, 0, 0, 0, 0, 0], [0, 0, 0, 0, 0, 0], [(-1), (-1), (-1), (-1), (-1), (-1)], [0, 0, 0, 0, 0, 0], [2, 2, 2, 2, 2], [10, 10, 10, 10, 10, 10, 10, 10], [0, 0, 0, 0, 0, 0, 0, 0, 0, 0, 0, 0], [0, 0, 0, 0, 0, 0], [0, 0, 0, 0, 0, 0], [0, 0, 0, 0, 0, 0], [(-1), (-1), (-1), (-1), (-1), (-1)], [0, 0, 0, 0, 0, 0], [2, 2, 2, 2, 2], [10, 10, 10, 10, 10, 10, 10, 10], [0, 0, 0, 0, 0, 0, 0, 0, 0, 0, 0, 0], [0, 0, 0, 0, 0, 0], [0, 0, 0, 0, 0, 0], [0, 0, 0, 0, 0, 0], [(-1), (-1), (-1), (-1), (-1), (-1)], [0, 0, 0, 0, 0, 0], [2, 2, 2, 2, 2], [10, 10, 10, 10, 10, 10, 10, 10], [0, 0, 0, 0, 0, 0, 0, 0, 0, 0, 0, 0], [0, 0, 0, 0, 0, 0], [0, 0, 0, 0, 0, 0], [0, 0, 0, 0, 0, 0], [(-1), (-1), (-1), (-1), (-1), (-1)], [0, 0, 0, 0, 0, 0], [2, 2, 2, 2, 2], [10, 10, 10, 10, 10, 10, 10, 10], [(-1), 0, 0], [], [(-1), 0, 0], [], [(-1), 0, 0], [], [(-1), 0, 0], []]
def t0T : List (List Int32) := [[], [], [], [], [], [], [], [], [], [], [0, 0, 0, 0, 0, 0, 0, 0, 0, 0, 0, 0, 0, 0, 0, 0, 0, 0, 0, 0, 0, 0, 0, 0, 0, 0, 0, 0, 0], [], [], [], [0, 5, 10, 14, 18, 22, 26, 29], [112, 108, 97, 105, 110, 113, 117, 105, 99, 107, 108, 97, 122, 121, 98, 101, 110, 116, 114, 111, 111, 109, 119, 97, 108, 108, 111, 117, 116], [0, 0, 0, 0, 0, 0], [0, 0, 0, 0, 0, 0, 0, 0, 0, 0, 0, 0, 0, 0, 0, 0, 0, 0], [], [0, 0], [(-4), (-4), (-4), (-4)], [0, 0, 0, 0], []]
def s0 : sg := fun p k => (s0T.getD p []).getD k 0
def t0 : sg := fun p k => (t0T.getD p []).getD k 0
def hD : mH := List.replicate 10 (.inl (0, []))
theorem new_C : mrun [] 1000 10 54 (mentry 54 [.ref 10] (hD ++ [.inr (4, mnew 4)])) = some (none, hp shC s0, 130, 1153) := eqR_ok (by decide +kernel)
def sM (k : Nat) : Nat := if k < 10 then k else k + 131
def hMt : mH := ((hp shM t0).drop 10).map (rE sM)
theorem new_M : mrun [] 300 10 110 (mentry 110 [.ref 141] (hp shC s0 ++ [.inr (5, mnew 5)])) = some (none, hp shC s0 ++ hMt, 12, 2015) := eqR_ok (by decide +kernel)
end Q90
section Q91
/-! the law's run: two small heaps in the large one -/
def sC (k : Nat) : Nat := k
theorem cV_sC (v : Value) : cV sC v = v := by cases v <;> rfl
theorem map_sC (l : List Value) : l.map (cV sC) = l := by
  rw [List.map_congr_left (g := id) (fun v _ => cV_sC v), List.map_id]
def LR (hC hM HS : mH) : Prop := mEmb sC hC HS ∧ mEmb sM hM HS ∧ hC.length = 141 ∧ hM.length = 23
/-- ints are the same under all places -/
def mInts (as : List Value) : Prop := ∀ σ : Nat → Nat, as.map (cV σ) = as
def lawL (i : Nat) : mL := [some (.ref 0), some (.ref 10), some (.ref 141), some (.int (nI i))]
theorem LR.stepC {hC hC' hM HS HS' : mH} (h : LR hC hM HS) (h1 : mEmb sC hC' HS') (h2 : mOff sC hC.length HS HS') (h3 : hC'.length = hC.length) : LR hC' hM HS' := by
  refine ⟨h1, ⟨fun i x hi => ?_, h.2.1.2.1, h.2.1.2.2⟩, h3.trans h.2.2.1, h.2.2.2⟩
  rw [h2.2 (sM i) (fun j hj hl => ?_)]
  · exact h.2.1.1 i x hi
  · rw [h.2.2.1] at hl
    have hj : 10 ≤ j := hj
    show j ≠ (if i < 10 then i else i + 131)
    by_cases q : i < 10
    · rw [if_pos q]; omega
    · rw [if_neg q]; omega
theorem LR.stepM {hC hM hM' HS HS' : mH} (h : LR hC hM HS) (h1 : mEmb sM hM' HS') (h2 : mOff sM hM.length HS HS') (h3 : hM'.length = hM.length) : LR hC hM' HS' := by
  refine ⟨⟨fun i x hi => ?_, h.1.2.1, h.1.2.2⟩, h1, h.2.2.1, h3.trans h.2.2.2⟩
  rw [h2.2 (sC i) (fun j hj hl => ?_)]
  · exact h.1.1 i x hi
  · have hj : 10 ≤ j := hj
    have hi' : i < hC.length := (List.getElem?_eq_some_iff.mp hi).1
    rw [h.2.2.1] at hi'
    show (if j < 10 then j else j + 131) ≠ i
    rw [if_neg (by omega)]; omega
theorem mEnds.any {sc sc' : List Int32} {d y : Nat} {q : mS} {x : Option Value × mH × Nat × Nat} (h : mEnds sc d y q x) (e : ∀ n, mrun sc n d y q = some x → mrun sc' n d y q = some x) : mEnds sc' d y q x := by
  obtain ⟨n, hn⟩ := h
  exact ⟨n, e n hn⟩
/-- the law comes to its end with 1 -/
def mFin (sc : List Int32) (d NC NS : Nat) (q : mS) : Prop := ∃ hs', mEnds sc d 184 q (some (.int 1), hs', NC, NS)
theorem mFin.step {sc : List Int32} {d NC NS : Nat} {q q' : mS} (h1 : mstep sc 184 q = some (.inl q')) (h2 : mmon q q' = true) (h : mFin sc d NC NS q') : mFin sc d NC NS q := by
  obtain ⟨w, h⟩ := h; exact ⟨w, mEnds.step h1 h2 h⟩
theorem mFin.steps {sc : List Int32} {d NC NS : Nat} (k : Nat) {q q' : mS} (h1 : msteps sc k 184 q = some q') (h : mFin sc d NC NS q') : mFin sc d NC NS q := by
  obtain ⟨w, h⟩ := h; exact ⟨w, mEnds.steps k h1 h⟩
theorem mFin.call {sc : List Int32} {d NC NS y' : Nat} {as : List Value} {q q' : mS} {v : Option Value} {hs' : mH} {c' s' : Nat} (h1 : mstep sc 184 q = some (.inr (.inr (y', as, q')))) (h2 : (mmon q q' && Nat.ble (margs as).length (mmaxL y')) = true)
    (h3 : mEnds sc d y' (mentry y' as q'.2.2.2.1) (v, hs', c', s')) (h : mFin sc (d + 1) NC NS (q'.1, q'.2.1, v.toList ++ q'.2.2.1, hs', q'.2.2.2.2.1 + c', q'.2.2.2.2.2 + s')) : mFin sc (d + 1) NC NS q := by
  obtain ⟨w, h⟩ := h; exact ⟨w, mEnds.call h1 h2 h3 h⟩
section LAW
variable {sc : List Int32} {d : Nat} {hC hM HS : mH} {nc ns : Nat} {NC NS : Nat} {st : List Value}
theorem step_fetch {y : Nat} {q : mS} {i : mI} {o : mO} (hf : mfetch y q.1 = some i) (h : mexec sc y i.2.1 i.2.2.2.1 i.2.2.2.2.1 i.2.2.2.2.2 q.1 q.2.1 q.2.2.1 q.2.2.2.1 q.2.2.2.2.1 q.2.2.2.2.2 = some o) : mstep sc y q = some o := by rw [mstep_of hf]; exact h
theorem mmon_rf {pc pc' : Nat} {l l' : mL} {s s' : List Value} {h h' : mH} {nc ns : Nat} : mmon (pc, l, s, h, nc, ns) (pc', l', s', h', nc, ns) = true := by
  unfold mmon
  rw [Nat.ble_eq_true_of_le (Nat.le_refl _), Nat.ble_eq_true_of_le (Nat.le_refl _)]; rfl
/-- a number of the script -/
theorem law_num {pc i j : Nat} {ix : Int32} (hf : mfetch 184 pc = some (pc, .iaload, 1, 0, 0, 0)) (hj : midx ix sc.length = some j)
    (k : mFin sc d NC NS (pc + 1, lawL i, .int (sc.getD j 0) :: st, HS, nc, ns)) : mFin sc d NC NS (pc, lawL i, .int ix :: .ref 0 :: st, HS, nc, ns) :=
  mFin.step (step_fetch hf ((oI_eq hj).trans rfl)) mmon_rf k
theorem midx_of {n N : Nat} (h : n < N) (hN : N < 2 ^ 31) : midx (nI n) N = some n := by
  have h1 : ¬ nI n < 0 := nI_pos (by omega)
  unfold midx
  rw [if_neg h1, nI_clamp (by omega), blt_of h]; rfl
theorem law_arg {pc i k : Nat} (h : i + k < sc.length) (hL : sc.length < 2 ^ 31) (hf0 : mfetch 184 pc = some (pc, .aload_n 0, 1, 0, 0, 0)) (hf1 : mfetch 184 (pc + 1) = some (pc + 1, .iload_n 3, 1, 0, 0, 0)) (hf2 : mfetch 184 (pc + 1 + 1) = some (pc + 1 + 1, .iconst (k : Int), 1, 0, 0, 0)) (hf3 : mfetch 184 (pc + 1 + 1 + 1) = some (pc + 1 + 1 + 1, .iadd, 1, 0, 0, 0)) (hf4 : mfetch 184 (pc + 1 + 1 + 1 + 1) = some (pc + 1 + 1 + 1 + 1, .iaload, 1, 0, 0, 0))
    (kk : mFin sc d NC NS (pc + 5, lawL i, .int (sc.getD (i + k) 0) :: st, HS, nc, ns)) : mFin sc d NC NS (pc, lawL i, st, HS, nc, ns) := by
  refine mFin.step (q' := (pc + 1, lawL i, .ref 0 :: st, HS, nc, ns)) (step_fetch hf0 rfl) mmon_rf ?_
  refine mFin.step (q' := (pc + 1 + 1, lawL i, .int (nI i) :: .ref 0 :: st, HS, nc, ns)) (step_fetch hf1 rfl) mmon_rf ?_
  refine mFin.step (q' := (pc + 1 + 1 + 1, lawL i, .int (Int32.ofInt k) :: .int (nI i) :: .ref 0 :: st, HS, nc, ns)) (step_fetch hf2 rfl) mmon_rf ?_
  refine mFin.step (q' := (pc + 1 + 1 + 1 + 1, lawL i, .int (nI i + Int32.ofInt k) :: .ref 0 :: st, HS, nc, ns)) (step_fetch hf3 rfl) mmon_rf ?_
  have e : nI i + Int32.ofInt k = nI (i + k) := by rw [← nI_add]; rfl
  rw [e]
  exact law_num hf4 (midx_of h hL) kk
theorem law_call {pc idx a r i : Nat} {as : List Value} {vs : List Value} {v : Value} {HS' : mH} (hf : mfetch 184 pc = some (pc, .invokevirtual idx, 3, a, 0, 0)) (hn : as.length = marg a) (hr : HS[r]? = some (.inr (mown a, vs))) (h6 : Nat.blt (mown a) 6 = true) (hc : Nat.ble (mcat st) 8 = true) (hm : (margs (.ref r :: as)).length ≤ mmaxL a)
    (h : mEnds sc d a (mentry a (.ref r :: as) HS) (some v, HS', 0, 0)) (k : mFin sc (d + 1) NC NS (pc + 3, lawL i, v :: st, HS', nc, ns)) : mFin sc (d + 1) NC NS (pc, lawL i, as.reverse ++ .ref r :: st, HS, nc, ns) := by
  have hp : mpop (marg a) (as.reverse ++ .ref r :: st) = some (as, .ref r :: st) := by
    unfold mpop
    rw [← hn, Nat.ble_eq_true_of_le (by rw [List.length_append, List.length_reverse]; omega), cond_true]
    have e : as.length = as.reverse.length := List.length_reverse.symm
    rw [e, List.take_left, List.drop_left, List.reverse_reverse]
  refine mFin.call (q' := (pc + 3, lawL i, st, HS, nc, ns)) (step_fetch hf ((oP_eq hp).trans ((hO_eq hr).trans ((oB_eq (Nat.beq_refl _)).trans ((oB_eq h6).trans ((oB_eq hc).trans rfl)))))) ?_ h k
  rw [mmon_rf, Nat.ble_eq_true_of_le hm]; rfl
/-- a call of the class -/
theorem law_C {pc idx a i : Nat} {as vs : List Value} {v : Value} {hC' : mH} (hR : LR hC hM HS) (hf : mfetch 184 pc = some (pc, .invokevirtual idx, 3, a, 0, 0)) (ha : a < 184) (hn : as.length = marg a) (hi : mInts as) (hv : ∀ σ, cV σ v = v) (ho : mown a = 4) (hr : hC[10]? = some (.inr (4, vs))) (hc : Nat.ble (mcat st) 8 = true) (hm : (margs (.ref 10 :: as)).length ≤ mmaxL a)
    (h : mEnds sc d a (mentry a (.ref 10 :: as) hC) (some v, hC', 0, 0)) (k : ∀ HS', LR hC' hM HS' → mFin sc (d + 1) NC NS (pc + 3, lawL i, v :: st, HS', nc, ns)) : mFin sc (d + 1) NC NS (pc, lawL i, as.reverse ++ .ref 10 :: st, HS, nc, ns) := by
  obtain ⟨n, hn'⟩ := h
  obtain ⟨HS', g1, g2, g3, g4⟩ := f_run (σ := sC) n d a (mentry a (.ref 10 :: as) hC) HS (some v) hC' ha hn' hR.1
  have g1' : mrun sc n d a (mentry a (.ref 10 :: as) HS) = some (some v, HS', 0, 0) := by
    have e := rL_entry sC a (.ref 10 :: as) hC HS
    rw [List.map_cons, hi sC] at e
    have e2 : mentry a (.ref 10 :: as) HS = mentry a (cV sC (.ref 10) :: as) HS := rfl
    rw [e2, e]
    have g := g1
    rw [Option.map_some, hv sC] at g
    exact g
  refine law_call hf hn (vs := vs) ?_ (by rw [ho]; rfl) hc hm ⟨n, g1'⟩ (k HS' (hR.stepC g2 g3 g4))
  have := hR.1.1 10 _ hr
  rw [ho]
  have e : rE sC (.inr (4, vs)) = .inr (4, vs) := by show Sum.inr (4, vs.map (cV sC)) = _; rw [map_sC]
  rw [e] at this
  exact this
/-- a call of the reference -/
theorem law_M {pc idx a i : Nat} {as vs : List Value} {v : Value} {hM' : mH} (hR : LR hC hM HS) (hf : mfetch 184 pc = some (pc, .invokevirtual idx, 3, a, 0, 0)) (ha : a < 184) (hn : as.length = marg a) (hi : mInts as) (hv : ∀ σ, cV σ v = v) (ho : mown a = 5) (hr : hM[10]? = some (.inr (5, vs))) (hc : Nat.ble (mcat st) 8 = true) (hm : (margs (.ref 141 :: as)).length ≤ mmaxL a)
    (h : mEnds sc d a (mentry a (.ref 10 :: as) hM) (some v, hM', 0, 0)) (k : ∀ HS', LR hC hM' HS' → mFin sc (d + 1) NC NS (pc + 3, lawL i, v :: st, HS', nc, ns)) : mFin sc (d + 1) NC NS (pc, lawL i, as.reverse ++ .ref 141 :: st, HS, nc, ns) := by
  obtain ⟨n, hn'⟩ := h
  obtain ⟨HS', g1, g2, g3, g4⟩ := f_run (σ := sM) n d a (mentry a (.ref 10 :: as) hM) HS (some v) hM' ha hn' hR.2.1
  have g1' : mrun sc n d a (mentry a (.ref 141 :: as) HS) = some (some v, HS', 0, 0) := by
    have e := rL_entry sM a (.ref 10 :: as) hM HS
    rw [List.map_cons, hi sM] at e
    have e2 : mentry a (.ref 141 :: as) HS = mentry a (cV sM (.ref 10) :: as) HS := rfl
    rw [e2, e]
    have g := g1
    rw [Option.map_some, hv sM] at g
    exact g
  exact law_call hf hn (vs := vs.map (cV sM)) (by rw [ho]; exact hR.2.1.1 10 _ hr) (by rw [ho]; rfl) hc hm ⟨n, g1'⟩ (k HS' (hR.stepM g2 g3 g4))
theorem lg_self (u : Int64) : lg_cmp u u = 0 := by
  unfold lg_cmp
  rw [if_neg (Int64.lt_irrefl), if_pos rfl]
theorem law_eq {pc i : Nat} {off : Int} {u : Int32} (hf : mfetch 184 pc = some (pc, .if_icmp .eq off, 3, 0, 0, 0)) (ht : (pc : Int) + off = ((1441 : Nat) : Int)) (k : mFin sc d NC NS (1441, lawL i, [], HS, nc, ns)) : mFin sc d NC NS (pc, lawL i, [.int u, .int u], HS, nc, ns) := by
  refine mFin.step (step_fetch hf ?_) mmon_rf k
  show (bif mtk .eq u u then mjp pc off (lawL i) [] HS nc ns else mgo (pc + 3) (lawL i) [] HS nc ns) = _
  have e : mtk .eq u u = true := decide_eq_true rfl
  rw [e, cond_true]
  exact mjp_eq ht
theorem law_leq {pc i : Nat} {off : Int} {u : Int64} (hf0 : mfetch 184 pc = some (pc, .lcmp, 1, 0, 0, 0)) (hf : mfetch 184 (pc + 1) = some (pc + 1, .ifCond .eq off, 3, 0, 0, 0)) (ht : ((pc + 1 : Nat) : Int) + off = ((1441 : Nat) : Int)) (k : mFin sc d NC NS (1441, lawL i, [], HS, nc, ns)) : mFin sc d NC NS (pc, lawL i, [.long u, .long u], HS, nc, ns) := by
  refine mFin.step (q' := (pc + 1, lawL i, [.int (lg_cmp u u)], HS, nc, ns)) (step_fetch hf0 rfl) mmon_rf ?_
  refine mFin.step (step_fetch hf ?_) mmon_rf k
  show (bif mtk .eq (lg_cmp u u) 0 then mjp (pc + 1) off (lawL i) [] HS nc ns else mgo (pc + 1 + 3) (lawL i) [] HS nc ns) = _
  have e : mtk .eq (lg_cmp u u) 0 = true := decide_eq_true (lg_self u)
  rw [e, cond_true]
  exact mjp_eq ht
theorem law_pop {pc i : Nat} {v : Value} (hf : mfetch 184 pc = some (pc, .pop, 1, 0, 0, 0)) (hv : v.category = 1) (k : mFin sc d NC NS (pc + 1, lawL i, st, HS, nc, ns)) : mFin sc d NC NS (pc, lawL i, v :: st, HS, nc, ns) :=
  mFin.step (step_fetch hf ((oB_eq (by rw [hv]; rfl)).trans rfl)) mmon_rf k
theorem law_pop2 {pc i : Nat} {v : Value} (hf : mfetch 184 pc = some (pc, .pop2, 1, 0, 0, 0)) (hv : v.category = 2) (k : mFin sc d NC NS (pc + 1, lawL i, st, HS, nc, ns)) : mFin sc d NC NS (pc, lawL i, v :: st, HS, nc, ns) :=
  mFin.step (step_fetch hf ((oB_eq (by rw [hv]; rfl)).trans rfl)) mmon_rf k
theorem law_go {pc i : Nat} {off : Int} (hf : mfetch 184 pc = some (pc, .goto off, 3, 0, 0, 0)) (ht : (pc : Int) + off = ((1441 : Nat) : Int)) (k : mFin sc d NC NS (1441, lawL i, [], HS, nc, ns)) : mFin sc d NC NS (pc, lawL i, [], HS, nc, ns) :=
  mFin.step (step_fetch hf (mjp_eq ht)) mmon_rf k
end LAW
end Q91
section Q92
/-! the 39 calls of the law -/
section LAW
variable {sc : List Int32} {d : Nat} {hC hM HS hC' hM' : mH} {nc ns i NC NS : Nat} {vs ws : List Value}
set_option maxRecDepth 100000 in
theorem law_case_0 {u w : Int32} (hL : sc.length < 2 ^ 31) (hi : i + 6 ≤ sc.length) (hR : LR hC hM HS) (hc : hC[10]? = some (.inr (4, vs))) (hm : hM[10]? = some (.inr (5, ws))) (hA : mEnds sc d 55 (mentry 55 (.ref 10 :: [.int (sc.getD (i + 1) 0)]) hC) (some (.int u), hC', 0, 0)) (hB : mEnds sc d 112 (mentry 112 (.ref 10 :: [.int (sc.getD (i + 1) 0)]) hM) (some (.int w), hM', 0, 0))
    (k : ∀ HS', LR hC' hM' HS' → mFin sc (d + 1) NC NS (1441, lawL i, [], HS', nc, ns)) : mFin sc (d + 1) NC NS (204, lawL i, [], HS, nc, ns) := by
  refine mFin.step (q' := (205, lawL i, .ref 10 :: [], HS, nc, ns)) (step_fetch (i := (204, .aload_n 1, 1, 0, 0, 0)) rfl rfl) mmon_rf ?_
  refine law_arg (k := 1) (by omega) hL rfl rfl rfl rfl rfl ?_
  refine law_C (as := [.int (sc.getD (i + 1) 0)]) (st := []) hR (idx := 13) (a := 55) rfl (by decide) rfl (fun _ => rfl) (fun _ => rfl) rfl hc rfl (Nat.le_of_ble_eq_true rfl) hA (fun H1 R1 => ?_)
  refine law_pop rfl rfl ?_
  refine mFin.step (q' := (215, lawL i, .ref 141 :: [], H1, nc, ns)) (step_fetch (i := (214, .aload_n 2, 1, 0, 0, 0)) rfl rfl) mmon_rf ?_
  refine law_arg (k := 1) (by omega) hL rfl rfl rfl rfl rfl ?_
  refine law_M (as := [.int (sc.getD (i + 1) 0)]) (st := []) R1 (idx := 17) (a := 112) rfl (by decide) rfl (fun _ => rfl) (fun _ => rfl) rfl hm rfl (Nat.le_of_ble_eq_true rfl) hB (fun H2 R2 => ?_)
  refine law_pop rfl rfl ?_
  exact law_go rfl (by decide) (k H2 R2)
set_option maxRecDepth 100000 in
theorem law_case_1 {u w : Int32} (hL : sc.length < 2 ^ 31) (hi : i + 6 ≤ sc.length) (hR : LR hC hM HS) (hc : hC[10]? = some (.inr (4, vs))) (hm : hM[10]? = some (.inr (5, ws))) (hA : mEnds sc d 56 (mentry 56 (.ref 10 :: [.int (sc.getD (i + 1) 0)]) hC) (some (.int u), hC', 0, 0)) (hB : mEnds sc d 113 (mentry 113 (.ref 10 :: [.int (sc.getD (i + 1) 0)]) hM) (some (.int w), hM', 0, 0))
    (k : ∀ HS', LR hC' hM' HS' → mFin sc (d + 1) NC NS (1441, lawL i, [], HS', nc, ns)) : mFin sc (d + 1) NC NS (227, lawL i, [], HS, nc, ns) := by
  refine mFin.step (q' := (228, lawL i, .ref 10 :: [], HS, nc, ns)) (step_fetch (i := (227, .aload_n 1, 1, 0, 0, 0)) rfl rfl) mmon_rf ?_
  refine law_arg (k := 1) (by omega) hL rfl rfl rfl rfl rfl ?_
  refine law_C (as := [.int (sc.getD (i + 1) 0)]) (st := []) hR (idx := 18) (a := 56) rfl (by decide) rfl (fun _ => rfl) (fun _ => rfl) rfl hc rfl (Nat.le_of_ble_eq_true rfl) hA (fun H1 R1 => ?_)
  refine law_pop rfl rfl ?_
  refine mFin.step (q' := (238, lawL i, .ref 141 :: [], H1, nc, ns)) (step_fetch (i := (237, .aload_n 2, 1, 0, 0, 0)) rfl rfl) mmon_rf ?_
  refine law_arg (k := 1) (by omega) hL rfl rfl rfl rfl rfl ?_
  refine law_M (as := [.int (sc.getD (i + 1) 0)]) (st := []) R1 (idx := 21) (a := 113) rfl (by decide) rfl (fun _ => rfl) (fun _ => rfl) rfl hm rfl (Nat.le_of_ble_eq_true rfl) hB (fun H2 R2 => ?_)
  refine law_pop rfl rfl ?_
  exact law_go rfl (by decide) (k H2 R2)
set_option maxRecDepth 100000 in
theorem law_case_2 {u w : Int32} (hL : sc.length < 2 ^ 31) (hi : i + 6 ≤ sc.length) (hR : LR hC hM HS) (hc : hC[10]? = some (.inr (4, vs))) (hm : hM[10]? = some (.inr (5, ws))) (hA : mEnds sc d 57 (mentry 57 (.ref 10 :: []) hC) (some (.int u), hC', 0, 0)) (hB : mEnds sc d 124 (mentry 124 (.ref 10 :: []) hM) (some (.int w), hM', 0, 0))
    (k : ∀ HS', LR hC' hM' HS' → mFin sc (d + 1) NC NS (1441, lawL i, [], HS', nc, ns)) : mFin sc (d + 1) NC NS (250, lawL i, [], HS, nc, ns) := by
  refine mFin.step (q' := (251, lawL i, .ref 10 :: [], HS, nc, ns)) (step_fetch (i := (250, .aload_n 1, 1, 0, 0, 0)) rfl rfl) mmon_rf ?_
  refine law_C (as := []) (st := []) hR (idx := 22) (a := 57) rfl (by decide) rfl (fun _ => rfl) (fun _ => rfl) rfl hc rfl (Nat.le_of_ble_eq_true rfl) hA (fun H1 R1 => ?_)
  refine law_pop rfl rfl ?_
  refine mFin.step (q' := (256, lawL i, .ref 141 :: [], H1, nc, ns)) (step_fetch (i := (255, .aload_n 2, 1, 0, 0, 0)) rfl rfl) mmon_rf ?_
  refine law_M (as := []) (st := []) R1 (idx := 26) (a := 124) rfl (by decide) rfl (fun _ => rfl) (fun _ => rfl) rfl hm rfl (Nat.le_of_ble_eq_true rfl) hB (fun H2 R2 => ?_)
  refine law_pop rfl rfl ?_
  exact law_go rfl (by decide) (k H2 R2)
set_option maxRecDepth 100000 in
theorem law_case_3 {u w : Int32} (hL : sc.length < 2 ^ 31) (hi : i + 6 ≤ sc.length) (hR : LR hC hM HS) (hc : hC[10]? = some (.inr (4, vs))) (hm : hM[10]? = some (.inr (5, ws))) (hA : mEnds sc d 58 (mentry 58 (.ref 10 :: []) hC) (some (.int u), hC', 0, 0)) (hB : mEnds sc d 125 (mentry 125 (.ref 10 :: []) hM) (some (.int w), hM', 0, 0))
    (k : ∀ HS', LR hC' hM' HS' → mFin sc (d + 1) NC NS (1441, lawL i, [], HS', nc, ns)) : mFin sc (d + 1) NC NS (263, lawL i, [], HS, nc, ns) := by
  refine mFin.step (q' := (264, lawL i, .ref 10 :: [], HS, nc, ns)) (step_fetch (i := (263, .aload_n 1, 1, 0, 0, 0)) rfl rfl) mmon_rf ?_
  refine law_C (as := []) (st := []) hR (idx := 27) (a := 58) rfl (by decide) rfl (fun _ => rfl) (fun _ => rfl) rfl hc rfl (Nat.le_of_ble_eq_true rfl) hA (fun H1 R1 => ?_)
  refine law_pop rfl rfl ?_
  refine mFin.step (q' := (269, lawL i, .ref 141 :: [], H1, nc, ns)) (step_fetch (i := (268, .aload_n 2, 1, 0, 0, 0)) rfl rfl) mmon_rf ?_
  refine law_M (as := []) (st := []) R1 (idx := 30) (a := 125) rfl (by decide) rfl (fun _ => rfl) (fun _ => rfl) rfl hm rfl (Nat.le_of_ble_eq_true rfl) hB (fun H2 R2 => ?_)
  refine law_pop rfl rfl ?_
  exact law_go rfl (by decide) (k H2 R2)
set_option maxRecDepth 100000 in
theorem law_case_4 {u w : Int32} (hL : sc.length < 2 ^ 31) (hi : i + 6 ≤ sc.length) (hR : LR hC hM HS) (hc : hC[10]? = some (.inr (4, vs))) (hm : hM[10]? = some (.inr (5, ws))) (hA : mEnds sc d 59 (mentry 59 (.ref 10 :: [.int (sc.getD (i + 1) 0)]) hC) (some (.int u), hC', 0, 0)) (hB : mEnds sc d 138 (mentry 138 (.ref 10 :: [.int (sc.getD (i + 1) 0)]) hM) (some (.int w), hM', 0, 0))
    (k : ∀ HS', LR hC' hM' HS' → mFin sc (d + 1) NC NS (1441, lawL i, [], HS', nc, ns)) : mFin sc (d + 1) NC NS (276, lawL i, [], HS, nc, ns) := by
  refine mFin.step (q' := (277, lawL i, .ref 10 :: [], HS, nc, ns)) (step_fetch (i := (276, .aload_n 1, 1, 0, 0, 0)) rfl rfl) mmon_rf ?_
  refine law_arg (k := 1) (by omega) hL rfl rfl rfl rfl rfl ?_
  refine law_C (as := [.int (sc.getD (i + 1) 0)]) (st := []) hR (idx := 31) (a := 59) rfl (by decide) rfl (fun _ => rfl) (fun _ => rfl) rfl hc rfl (Nat.le_of_ble_eq_true rfl) hA (fun H1 R1 => ?_)
  refine law_pop rfl rfl ?_
  refine mFin.step (q' := (287, lawL i, .ref 141 :: [], H1, nc, ns)) (step_fetch (i := (286, .aload_n 2, 1, 0, 0, 0)) rfl rfl) mmon_rf ?_
  refine law_arg (k := 1) (by omega) hL rfl rfl rfl rfl rfl ?_
  refine law_M (as := [.int (sc.getD (i + 1) 0)]) (st := []) R1 (idx := 34) (a := 138) rfl (by decide) rfl (fun _ => rfl) (fun _ => rfl) rfl hm rfl (Nat.le_of_ble_eq_true rfl) hB (fun H2 R2 => ?_)
  refine law_pop rfl rfl ?_
  exact law_go rfl (by decide) (k H2 R2)
set_option maxRecDepth 100000 in
theorem law_case_5 {u w : Int32} (hL : sc.length < 2 ^ 31) (hi : i + 6 ≤ sc.length) (hR : LR hC hM HS) (hc : hC[10]? = some (.inr (4, vs))) (hm : hM[10]? = some (.inr (5, ws))) (hA : mEnds sc d 60 (mentry 60 (.ref 10 :: [.int (sc.getD (i + 1) 0), .int (sc.getD (i + 2) 0)]) hC) (some (.int u), hC', 0, 0)) (hB : mEnds sc d 139 (mentry 139 (.ref 10 :: [.int (sc.getD (i + 1) 0), .int (sc.getD (i + 2) 0)]) hM) (some (.int w), hM', 0, 0))
    (k : ∀ HS', LR hC' hM' HS' → mFin sc (d + 1) NC NS (1441, lawL i, [], HS', nc, ns)) : mFin sc (d + 1) NC NS (299, lawL i, [], HS, nc, ns) := by
  refine mFin.step (q' := (300, lawL i, .ref 10 :: [], HS, nc, ns)) (step_fetch (i := (299, .aload_n 1, 1, 0, 0, 0)) rfl rfl) mmon_rf ?_
  refine law_arg (k := 1) (by omega) hL rfl rfl rfl rfl rfl ?_
  refine law_arg (k := 2) (by omega) hL rfl rfl rfl rfl rfl ?_
  refine law_C (as := [.int (sc.getD (i + 1) 0), .int (sc.getD (i + 2) 0)]) (st := []) hR (idx := 35) (a := 60) rfl (by decide) rfl (fun _ => rfl) (fun _ => rfl) rfl hc rfl (Nat.le_of_ble_eq_true rfl) hA (fun H1 R1 => ?_)
  refine law_pop rfl rfl ?_
  refine mFin.step (q' := (315, lawL i, .ref 141 :: [], H1, nc, ns)) (step_fetch (i := (314, .aload_n 2, 1, 0, 0, 0)) rfl rfl) mmon_rf ?_
  refine law_arg (k := 1) (by omega) hL rfl rfl rfl rfl rfl ?_
  refine law_arg (k := 2) (by omega) hL rfl rfl rfl rfl rfl ?_
  refine law_M (as := [.int (sc.getD (i + 1) 0), .int (sc.getD (i + 2) 0)]) (st := []) R1 (idx := 39) (a := 139) rfl (by decide) rfl (fun _ => rfl) (fun _ => rfl) rfl hm rfl (Nat.le_of_ble_eq_true rfl) hB (fun H2 R2 => ?_)
  refine law_pop rfl rfl ?_
  exact law_go rfl (by decide) (k H2 R2)
set_option maxRecDepth 100000 in
theorem law_case_6 {u w : Int32} (hL : sc.length < 2 ^ 31) (hi : i + 6 ≤ sc.length) (hR : LR hC hM HS) (hc : hC[10]? = some (.inr (4, vs))) (hm : hM[10]? = some (.inr (5, ws))) (hA : mEnds sc d 62 (mentry 62 (.ref 10 :: [.int (sc.getD (i + 1) 0)]) hC) (some (.int u), hC', 0, 0)) (hB : mEnds sc d 140 (mentry 140 (.ref 10 :: [.int (sc.getD (i + 1) 0)]) hM) (some (.int w), hM', 0, 0))
    (k : ∀ HS', LR hC' hM' HS' → mFin sc (d + 1) NC NS (1441, lawL i, [], HS', nc, ns)) : mFin sc (d + 1) NC NS (332, lawL i, [], HS, nc, ns) := by
  refine mFin.step (q' := (333, lawL i, .ref 10 :: [], HS, nc, ns)) (step_fetch (i := (332, .aload_n 1, 1, 0, 0, 0)) rfl rfl) mmon_rf ?_
  refine law_arg (k := 1) (by omega) hL rfl rfl rfl rfl rfl ?_
  refine law_C (as := [.int (sc.getD (i + 1) 0)]) (st := []) hR (idx := 40) (a := 62) rfl (by decide) rfl (fun _ => rfl) (fun _ => rfl) rfl hc rfl (Nat.le_of_ble_eq_true rfl) hA (fun H1 R1 => ?_)
  refine law_pop rfl rfl ?_
  refine mFin.step (q' := (343, lawL i, .ref 141 :: [], H1, nc, ns)) (step_fetch (i := (342, .aload_n 2, 1, 0, 0, 0)) rfl rfl) mmon_rf ?_
  refine law_arg (k := 1) (by omega) hL rfl rfl rfl rfl rfl ?_
  refine law_M (as := [.int (sc.getD (i + 1) 0)]) (st := []) R1 (idx := 43) (a := 140) rfl (by decide) rfl (fun _ => rfl) (fun _ => rfl) rfl hm rfl (Nat.le_of_ble_eq_true rfl) hB (fun H2 R2 => ?_)
  refine law_pop rfl rfl ?_
  exact law_go rfl (by decide) (k H2 R2)
set_option maxRecDepth 100000 in
theorem law_case_7 {u : Int32} (hL : sc.length < 2 ^ 31) (hi : i + 6 ≤ sc.length) (hR : LR hC hM HS) (hc : hC[10]? = some (.inr (4, vs))) (hm : hM[10]? = some (.inr (5, ws))) (hA : mEnds sc d 63 (mentry 63 (.ref 10 :: [.int (sc.getD (i + 1) 0)]) hC) (some (.int u), hC', 0, 0)) (hB : mEnds sc d 141 (mentry 141 (.ref 10 :: [.int (sc.getD (i + 1) 0)]) hM) (some (.int u), hM', 0, 0))
    (k : ∀ HS', LR hC' hM' HS' → mFin sc (d + 1) NC NS (1441, lawL i, [], HS', nc, ns)) : mFin sc (d + 1) NC NS (355, lawL i, [], HS, nc, ns) := by
  refine mFin.step (q' := (356, lawL i, .ref 10 :: [], HS, nc, ns)) (step_fetch (i := (355, .aload_n 1, 1, 0, 0, 0)) rfl rfl) mmon_rf ?_
  refine law_arg (k := 1) (by omega) hL rfl rfl rfl rfl rfl ?_
  refine law_C (as := [.int (sc.getD (i + 1) 0)]) (st := []) hR (idx := 44) (a := 63) rfl (by decide) rfl (fun _ => rfl) (fun _ => rfl) rfl hc rfl (Nat.le_of_ble_eq_true rfl) hA (fun H1 R1 => ?_)
  refine mFin.step (q' := (365, lawL i, .ref 141 :: [.int u], H1, nc, ns)) (step_fetch (i := (364, .aload_n 2, 1, 0, 0, 0)) rfl rfl) mmon_rf ?_
  refine law_arg (k := 1) (by omega) hL rfl rfl rfl rfl rfl ?_
  refine law_M (as := [.int (sc.getD (i + 1) 0)]) (st := [.int u]) R1 (idx := 47) (a := 141) rfl (by decide) rfl (fun _ => rfl) (fun _ => rfl) rfl hm rfl (Nat.le_of_ble_eq_true rfl) hB (fun H2 R2 => ?_)
  exact law_eq rfl rfl (k H2 R2)
set_option maxRecDepth 100000 in
theorem law_case_8 {u w : Int32} (hL : sc.length < 2 ^ 31) (hi : i + 6 ≤ sc.length) (hR : LR hC hM HS) (hc : hC[10]? = some (.inr (4, vs))) (hm : hM[10]? = some (.inr (5, ws))) (hA : mEnds sc d 64 (mentry 64 (.ref 10 :: [.int (sc.getD (i + 1) 0), .int (sc.getD (i + 2) 0), .int (sc.getD (i + 3) 0)]) hC) (some (.int u), hC', 0, 0)) (hB : mEnds sc d 143 (mentry 143 (.ref 10 :: [.int (sc.getD (i + 1) 0), .int (sc.getD (i + 2) 0), .int (sc.getD (i + 3) 0)]) hM) (some (.int w), hM', 0, 0))
    (k : ∀ HS', LR hC' hM' HS' → mFin sc (d + 1) NC NS (1441, lawL i, [], HS', nc, ns)) : mFin sc (d + 1) NC NS (378, lawL i, [], HS, nc, ns) := by
  refine mFin.step (q' := (379, lawL i, .ref 10 :: [], HS, nc, ns)) (step_fetch (i := (378, .aload_n 1, 1, 0, 0, 0)) rfl rfl) mmon_rf ?_
  refine law_arg (k := 1) (by omega) hL rfl rfl rfl rfl rfl ?_
  refine law_arg (k := 2) (by omega) hL rfl rfl rfl rfl rfl ?_
  refine law_arg (k := 3) (by omega) hL rfl rfl rfl rfl rfl ?_
  refine law_C (as := [.int (sc.getD (i + 1) 0), .int (sc.getD (i + 2) 0), .int (sc.getD (i + 3) 0)]) (st := []) hR (idx := 48) (a := 64) rfl (by decide) rfl (fun _ => rfl) (fun _ => rfl) rfl hc rfl (Nat.le_of_ble_eq_true rfl) hA (fun H1 R1 => ?_)
  refine law_pop rfl rfl ?_
  refine mFin.step (q' := (399, lawL i, .ref 141 :: [], H1, nc, ns)) (step_fetch (i := (398, .aload_n 2, 1, 0, 0, 0)) rfl rfl) mmon_rf ?_
  refine law_arg (k := 1) (by omega) hL rfl rfl rfl rfl rfl ?_
  refine law_arg (k := 2) (by omega) hL rfl rfl rfl rfl rfl ?_
  refine law_arg (k := 3) (by omega) hL rfl rfl rfl rfl rfl ?_
  refine law_M (as := [.int (sc.getD (i + 1) 0), .int (sc.getD (i + 2) 0), .int (sc.getD (i + 3) 0)]) (st := []) R1 (idx := 52) (a := 143) rfl (by decide) rfl (fun _ => rfl) (fun _ => rfl) rfl hm rfl (Nat.le_of_ble_eq_true rfl) hB (fun H2 R2 => ?_)
  refine law_pop rfl rfl ?_
  exact law_go rfl (by decide) (k H2 R2)
set_option maxRecDepth 100000 in
theorem law_case_9 {u w : Int32} (hL : sc.length < 2 ^ 31) (hi : i + 6 ≤ sc.length) (hR : LR hC hM HS) (hc : hC[10]? = some (.inr (4, vs))) (hm : hM[10]? = some (.inr (5, ws))) (hA : mEnds sc d 65 (mentry 65 (.ref 10 :: [.int (sc.getD (i + 1) 0), .int (sc.getD (i + 2) 0), .int (sc.getD (i + 3) 0)]) hC) (some (.int u), hC', 0, 0)) (hB : mEnds sc d 144 (mentry 144 (.ref 10 :: [.int (sc.getD (i + 1) 0), .int (sc.getD (i + 2) 0), .int (sc.getD (i + 3) 0)]) hM) (some (.int w), hM', 0, 0))
    (k : ∀ HS', LR hC' hM' HS' → mFin sc (d + 1) NC NS (1441, lawL i, [], HS', nc, ns)) : mFin sc (d + 1) NC NS (421, lawL i, [], HS, nc, ns) := by
  refine mFin.step (q' := (422, lawL i, .ref 10 :: [], HS, nc, ns)) (step_fetch (i := (421, .aload_n 1, 1, 0, 0, 0)) rfl rfl) mmon_rf ?_
  refine law_arg (k := 1) (by omega) hL rfl rfl rfl rfl rfl ?_
  refine law_arg (k := 2) (by omega) hL rfl rfl rfl rfl rfl ?_
  refine law_arg (k := 3) (by omega) hL rfl rfl rfl rfl rfl ?_
  refine law_C (as := [.int (sc.getD (i + 1) 0), .int (sc.getD (i + 2) 0), .int (sc.getD (i + 3) 0)]) (st := []) hR (idx := 53) (a := 65) rfl (by decide) rfl (fun _ => rfl) (fun _ => rfl) rfl hc rfl (Nat.le_of_ble_eq_true rfl) hA (fun H1 R1 => ?_)
  refine law_pop rfl rfl ?_
  refine mFin.step (q' := (442, lawL i, .ref 141 :: [], H1, nc, ns)) (step_fetch (i := (441, .aload_n 2, 1, 0, 0, 0)) rfl rfl) mmon_rf ?_
  refine law_arg (k := 1) (by omega) hL rfl rfl rfl rfl rfl ?_
  refine law_arg (k := 2) (by omega) hL rfl rfl rfl rfl rfl ?_
  refine law_arg (k := 3) (by omega) hL rfl rfl rfl rfl rfl ?_
  refine law_M (as := [.int (sc.getD (i + 1) 0), .int (sc.getD (i + 2) 0), .int (sc.getD (i + 3) 0)]) (st := []) R1 (idx := 56) (a := 144) rfl (by decide) rfl (fun _ => rfl) (fun _ => rfl) rfl hm rfl (Nat.le_of_ble_eq_true rfl) hB (fun H2 R2 => ?_)
  refine law_pop rfl rfl ?_
  exact law_go rfl (by decide) (k H2 R2)
set_option maxRecDepth 100000 in
theorem law_case_10 {u w : Int32} (hL : sc.length < 2 ^ 31) (hi : i + 6 ≤ sc.length) (hR : LR hC hM HS) (hc : hC[10]? = some (.inr (4, vs))) (hm : hM[10]? = some (.inr (5, ws))) (hA : mEnds sc d 66 (mentry 66 (.ref 10 :: [.int (sc.getD (i + 1) 0)]) hC) (some (.int u), hC', 0, 0)) (hB : mEnds sc d 146 (mentry 146 (.ref 10 :: [.int (sc.getD (i + 1) 0)]) hM) (some (.int w), hM', 0, 0))
    (k : ∀ HS', LR hC' hM' HS' → mFin sc (d + 1) NC NS (1441, lawL i, [], HS', nc, ns)) : mFin sc (d + 1) NC NS (464, lawL i, [], HS, nc, ns) := by
  refine mFin.step (q' := (465, lawL i, .ref 10 :: [], HS, nc, ns)) (step_fetch (i := (464, .aload_n 1, 1, 0, 0, 0)) rfl rfl) mmon_rf ?_
  refine law_arg (k := 1) (by omega) hL rfl rfl rfl rfl rfl ?_
  refine law_C (as := [.int (sc.getD (i + 1) 0)]) (st := []) hR (idx := 57) (a := 66) rfl (by decide) rfl (fun _ => rfl) (fun _ => rfl) rfl hc rfl (Nat.le_of_ble_eq_true rfl) hA (fun H1 R1 => ?_)
  refine law_pop rfl rfl ?_
  refine mFin.step (q' := (475, lawL i, .ref 141 :: [], H1, nc, ns)) (step_fetch (i := (474, .aload_n 2, 1, 0, 0, 0)) rfl rfl) mmon_rf ?_
  refine law_arg (k := 1) (by omega) hL rfl rfl rfl rfl rfl ?_
  refine law_M (as := [.int (sc.getD (i + 1) 0)]) (st := []) R1 (idx := 60) (a := 146) rfl (by decide) rfl (fun _ => rfl) (fun _ => rfl) rfl hm rfl (Nat.le_of_ble_eq_true rfl) hB (fun H2 R2 => ?_)
  refine law_pop rfl rfl ?_
  exact law_go rfl (by decide) (k H2 R2)
set_option maxRecDepth 100000 in
theorem law_case_11 {u w : Int32} (hL : sc.length < 2 ^ 31) (hi : i + 6 ≤ sc.length) (hR : LR hC hM HS) (hc : hC[10]? = some (.inr (4, vs))) (hm : hM[10]? = some (.inr (5, ws))) (hA : mEnds sc d 67 (mentry 67 (.ref 10 :: [.int (sc.getD (i + 1) 0), .int (sc.getD (i + 2) 0)]) hC) (some (.int u), hC', 0, 0)) (hB : mEnds sc d 148 (mentry 148 (.ref 10 :: [.int (sc.getD (i + 1) 0), .int (sc.getD (i + 2) 0)]) hM) (some (.int w), hM', 0, 0))
    (k : ∀ HS', LR hC' hM' HS' → mFin sc (d + 1) NC NS (1441, lawL i, [], HS', nc, ns)) : mFin sc (d + 1) NC NS (487, lawL i, [], HS, nc, ns) := by
  refine mFin.step (q' := (488, lawL i, .ref 10 :: [], HS, nc, ns)) (step_fetch (i := (487, .aload_n 1, 1, 0, 0, 0)) rfl rfl) mmon_rf ?_
  refine law_arg (k := 1) (by omega) hL rfl rfl rfl rfl rfl ?_
  refine law_arg (k := 2) (by omega) hL rfl rfl rfl rfl rfl ?_
  refine law_C (as := [.int (sc.getD (i + 1) 0), .int (sc.getD (i + 2) 0)]) (st := []) hR (idx := 61) (a := 67) rfl (by decide) rfl (fun _ => rfl) (fun _ => rfl) rfl hc rfl (Nat.le_of_ble_eq_true rfl) hA (fun H1 R1 => ?_)
  refine law_pop rfl rfl ?_
  refine mFin.step (q' := (503, lawL i, .ref 141 :: [], H1, nc, ns)) (step_fetch (i := (502, .aload_n 2, 1, 0, 0, 0)) rfl rfl) mmon_rf ?_
  refine law_arg (k := 1) (by omega) hL rfl rfl rfl rfl rfl ?_
  refine law_arg (k := 2) (by omega) hL rfl rfl rfl rfl rfl ?_
  refine law_M (as := [.int (sc.getD (i + 1) 0), .int (sc.getD (i + 2) 0)]) (st := []) R1 (idx := 64) (a := 148) rfl (by decide) rfl (fun _ => rfl) (fun _ => rfl) rfl hm rfl (Nat.le_of_ble_eq_true rfl) hB (fun H2 R2 => ?_)
  refine law_pop rfl rfl ?_
  exact law_go rfl (by decide) (k H2 R2)
set_option maxRecDepth 100000 in
theorem law_case_12 {u w : Int32} (hL : sc.length < 2 ^ 31) (hi : i + 6 ≤ sc.length) (hR : LR hC hM HS) (hc : hC[10]? = some (.inr (4, vs))) (hm : hM[10]? = some (.inr (5, ws))) (hA : mEnds sc d 68 (mentry 68 (.ref 10 :: [.int (sc.getD (i + 1) 0), .int (sc.getD (i + 2) 0)]) hC) (some (.int u), hC', 0, 0)) (hB : mEnds sc d 149 (mentry 149 (.ref 10 :: [.int (sc.getD (i + 1) 0), .int (sc.getD (i + 2) 0)]) hM) (some (.int w), hM', 0, 0))
    (k : ∀ HS', LR hC' hM' HS' → mFin sc (d + 1) NC NS (1441, lawL i, [], HS', nc, ns)) : mFin sc (d + 1) NC NS (520, lawL i, [], HS, nc, ns) := by
  refine mFin.step (q' := (521, lawL i, .ref 10 :: [], HS, nc, ns)) (step_fetch (i := (520, .aload_n 1, 1, 0, 0, 0)) rfl rfl) mmon_rf ?_
  refine law_arg (k := 1) (by omega) hL rfl rfl rfl rfl rfl ?_
  refine law_arg (k := 2) (by omega) hL rfl rfl rfl rfl rfl ?_
  refine law_C (as := [.int (sc.getD (i + 1) 0), .int (sc.getD (i + 2) 0)]) (st := []) hR (idx := 65) (a := 68) rfl (by decide) rfl (fun _ => rfl) (fun _ => rfl) rfl hc rfl (Nat.le_of_ble_eq_true rfl) hA (fun H1 R1 => ?_)
  refine law_pop rfl rfl ?_
  refine mFin.step (q' := (536, lawL i, .ref 141 :: [], H1, nc, ns)) (step_fetch (i := (535, .aload_n 2, 1, 0, 0, 0)) rfl rfl) mmon_rf ?_
  refine law_arg (k := 1) (by omega) hL rfl rfl rfl rfl rfl ?_
  refine law_arg (k := 2) (by omega) hL rfl rfl rfl rfl rfl ?_
  refine law_M (as := [.int (sc.getD (i + 1) 0), .int (sc.getD (i + 2) 0)]) (st := []) R1 (idx := 68) (a := 149) rfl (by decide) rfl (fun _ => rfl) (fun _ => rfl) rfl hm rfl (Nat.le_of_ble_eq_true rfl) hB (fun H2 R2 => ?_)
  refine law_pop rfl rfl ?_
  exact law_go rfl (by decide) (k H2 R2)
set_option maxRecDepth 100000 in
theorem law_case_13 {u w : Int32} (hL : sc.length < 2 ^ 31) (hi : i + 6 ≤ sc.length) (hR : LR hC hM HS) (hc : hC[10]? = some (.inr (4, vs))) (hm : hM[10]? = some (.inr (5, ws))) (hA : mEnds sc d 69 (mentry 69 (.ref 10 :: [.int (sc.getD (i + 1) 0), .int (sc.getD (i + 2) 0)]) hC) (some (.int u), hC', 0, 0)) (hB : mEnds sc d 150 (mentry 150 (.ref 10 :: [.int (sc.getD (i + 1) 0), .int (sc.getD (i + 2) 0)]) hM) (some (.int w), hM', 0, 0))
    (k : ∀ HS', LR hC' hM' HS' → mFin sc (d + 1) NC NS (1441, lawL i, [], HS', nc, ns)) : mFin sc (d + 1) NC NS (553, lawL i, [], HS, nc, ns) := by
  refine mFin.step (q' := (554, lawL i, .ref 10 :: [], HS, nc, ns)) (step_fetch (i := (553, .aload_n 1, 1, 0, 0, 0)) rfl rfl) mmon_rf ?_
  refine law_arg (k := 1) (by omega) hL rfl rfl rfl rfl rfl ?_
  refine law_arg (k := 2) (by omega) hL rfl rfl rfl rfl rfl ?_
  refine law_C (as := [.int (sc.getD (i + 1) 0), .int (sc.getD (i + 2) 0)]) (st := []) hR (idx := 69) (a := 69) rfl (by decide) rfl (fun _ => rfl) (fun _ => rfl) rfl hc rfl (Nat.le_of_ble_eq_true rfl) hA (fun H1 R1 => ?_)
  refine law_pop rfl rfl ?_
  refine mFin.step (q' := (569, lawL i, .ref 141 :: [], H1, nc, ns)) (step_fetch (i := (568, .aload_n 2, 1, 0, 0, 0)) rfl rfl) mmon_rf ?_
  refine law_arg (k := 1) (by omega) hL rfl rfl rfl rfl rfl ?_
  refine law_arg (k := 2) (by omega) hL rfl rfl rfl rfl rfl ?_
  refine law_M (as := [.int (sc.getD (i + 1) 0), .int (sc.getD (i + 2) 0)]) (st := []) R1 (idx := 72) (a := 150) rfl (by decide) rfl (fun _ => rfl) (fun _ => rfl) rfl hm rfl (Nat.le_of_ble_eq_true rfl) hB (fun H2 R2 => ?_)
  refine law_pop rfl rfl ?_
  exact law_go rfl (by decide) (k H2 R2)
set_option maxRecDepth 100000 in
theorem law_case_14 {u w : Int32} (hL : sc.length < 2 ^ 31) (hi : i + 6 ≤ sc.length) (hR : LR hC hM HS) (hc : hC[10]? = some (.inr (4, vs))) (hm : hM[10]? = some (.inr (5, ws))) (hA : mEnds sc d 70 (mentry 70 (.ref 10 :: [.int (sc.getD (i + 1) 0)]) hC) (some (.int u), hC', 0, 0)) (hB : mEnds sc d 151 (mentry 151 (.ref 10 :: [.int (sc.getD (i + 1) 0)]) hM) (some (.int w), hM', 0, 0))
    (k : ∀ HS', LR hC' hM' HS' → mFin sc (d + 1) NC NS (1441, lawL i, [], HS', nc, ns)) : mFin sc (d + 1) NC NS (586, lawL i, [], HS, nc, ns) := by
  refine mFin.step (q' := (587, lawL i, .ref 10 :: [], HS, nc, ns)) (step_fetch (i := (586, .aload_n 1, 1, 0, 0, 0)) rfl rfl) mmon_rf ?_
  refine law_arg (k := 1) (by omega) hL rfl rfl rfl rfl rfl ?_
  refine law_C (as := [.int (sc.getD (i + 1) 0)]) (st := []) hR (idx := 73) (a := 70) rfl (by decide) rfl (fun _ => rfl) (fun _ => rfl) rfl hc rfl (Nat.le_of_ble_eq_true rfl) hA (fun H1 R1 => ?_)
  refine law_pop rfl rfl ?_
  refine mFin.step (q' := (597, lawL i, .ref 141 :: [], H1, nc, ns)) (step_fetch (i := (596, .aload_n 2, 1, 0, 0, 0)) rfl rfl) mmon_rf ?_
  refine law_arg (k := 1) (by omega) hL rfl rfl rfl rfl rfl ?_
  refine law_M (as := [.int (sc.getD (i + 1) 0)]) (st := []) R1 (idx := 76) (a := 151) rfl (by decide) rfl (fun _ => rfl) (fun _ => rfl) rfl hm rfl (Nat.le_of_ble_eq_true rfl) hB (fun H2 R2 => ?_)
  refine law_pop rfl rfl ?_
  exact law_go rfl (by decide) (k H2 R2)
set_option maxRecDepth 100000 in
theorem law_case_15 {u w : Int32} (hL : sc.length < 2 ^ 31) (hi : i + 6 ≤ sc.length) (hR : LR hC hM HS) (hc : hC[10]? = some (.inr (4, vs))) (hm : hM[10]? = some (.inr (5, ws))) (hA : mEnds sc d 71 (mentry 71 (.ref 10 :: [.int (sc.getD (i + 1) 0), .int (sc.getD (i + 2) 0)]) hC) (some (.int u), hC', 0, 0)) (hB : mEnds sc d 154 (mentry 154 (.ref 10 :: [.int (sc.getD (i + 1) 0), .int (sc.getD (i + 2) 0)]) hM) (some (.int w), hM', 0, 0))
    (k : ∀ HS', LR hC' hM' HS' → mFin sc (d + 1) NC NS (1441, lawL i, [], HS', nc, ns)) : mFin sc (d + 1) NC NS (609, lawL i, [], HS, nc, ns) := by
  refine mFin.step (q' := (610, lawL i, .ref 10 :: [], HS, nc, ns)) (step_fetch (i := (609, .aload_n 1, 1, 0, 0, 0)) rfl rfl) mmon_rf ?_
  refine law_arg (k := 1) (by omega) hL rfl rfl rfl rfl rfl ?_
  refine law_arg (k := 2) (by omega) hL rfl rfl rfl rfl rfl ?_
  refine law_C (as := [.int (sc.getD (i + 1) 0), .int (sc.getD (i + 2) 0)]) (st := []) hR (idx := 77) (a := 71) rfl (by decide) rfl (fun _ => rfl) (fun _ => rfl) rfl hc rfl (Nat.le_of_ble_eq_true rfl) hA (fun H1 R1 => ?_)
  refine law_pop rfl rfl ?_
  refine mFin.step (q' := (625, lawL i, .ref 141 :: [], H1, nc, ns)) (step_fetch (i := (624, .aload_n 2, 1, 0, 0, 0)) rfl rfl) mmon_rf ?_
  refine law_arg (k := 1) (by omega) hL rfl rfl rfl rfl rfl ?_
  refine law_arg (k := 2) (by omega) hL rfl rfl rfl rfl rfl ?_
  refine law_M (as := [.int (sc.getD (i + 1) 0), .int (sc.getD (i + 2) 0)]) (st := []) R1 (idx := 80) (a := 154) rfl (by decide) rfl (fun _ => rfl) (fun _ => rfl) rfl hm rfl (Nat.le_of_ble_eq_true rfl) hB (fun H2 R2 => ?_)
  refine law_pop rfl rfl ?_
  exact law_go rfl (by decide) (k H2 R2)
set_option maxRecDepth 100000 in
theorem law_case_16 {u w : Int32} (hL : sc.length < 2 ^ 31) (hi : i + 6 ≤ sc.length) (hR : LR hC hM HS) (hc : hC[10]? = some (.inr (4, vs))) (hm : hM[10]? = some (.inr (5, ws))) (hA : mEnds sc d 73 (mentry 73 (.ref 10 :: [.int (sc.getD (i + 1) 0), .int (sc.getD (i + 2) 0), .int (sc.getD (i + 3) 0)]) hC) (some (.int u), hC', 0, 0)) (hB : mEnds sc d 155 (mentry 155 (.ref 10 :: [.int (sc.getD (i + 1) 0), .int (sc.getD (i + 2) 0), .int (sc.getD (i + 3) 0)]) hM) (some (.int w), hM', 0, 0))
    (k : ∀ HS', LR hC' hM' HS' → mFin sc (d + 1) NC NS (1441, lawL i, [], HS', nc, ns)) : mFin sc (d + 1) NC NS (642, lawL i, [], HS, nc, ns) := by
  refine mFin.step (q' := (643, lawL i, .ref 10 :: [], HS, nc, ns)) (step_fetch (i := (642, .aload_n 1, 1, 0, 0, 0)) rfl rfl) mmon_rf ?_
  refine law_arg (k := 1) (by omega) hL rfl rfl rfl rfl rfl ?_
  refine law_arg (k := 2) (by omega) hL rfl rfl rfl rfl rfl ?_
  refine law_arg (k := 3) (by omega) hL rfl rfl rfl rfl rfl ?_
  refine law_C (as := [.int (sc.getD (i + 1) 0), .int (sc.getD (i + 2) 0), .int (sc.getD (i + 3) 0)]) (st := []) hR (idx := 81) (a := 73) rfl (by decide) rfl (fun _ => rfl) (fun _ => rfl) rfl hc rfl (Nat.le_of_ble_eq_true rfl) hA (fun H1 R1 => ?_)
  refine law_pop rfl rfl ?_
  refine mFin.step (q' := (663, lawL i, .ref 141 :: [], H1, nc, ns)) (step_fetch (i := (662, .aload_n 2, 1, 0, 0, 0)) rfl rfl) mmon_rf ?_
  refine law_arg (k := 1) (by omega) hL rfl rfl rfl rfl rfl ?_
  refine law_arg (k := 2) (by omega) hL rfl rfl rfl rfl rfl ?_
  refine law_arg (k := 3) (by omega) hL rfl rfl rfl rfl rfl ?_
  refine law_M (as := [.int (sc.getD (i + 1) 0), .int (sc.getD (i + 2) 0), .int (sc.getD (i + 3) 0)]) (st := []) R1 (idx := 84) (a := 155) rfl (by decide) rfl (fun _ => rfl) (fun _ => rfl) rfl hm rfl (Nat.le_of_ble_eq_true rfl) hB (fun H2 R2 => ?_)
  refine law_pop rfl rfl ?_
  exact law_go rfl (by decide) (k H2 R2)
set_option maxRecDepth 100000 in
theorem law_case_17 {u w : Int32} (hL : sc.length < 2 ^ 31) (hi : i + 6 ≤ sc.length) (hR : LR hC hM HS) (hc : hC[10]? = some (.inr (4, vs))) (hm : hM[10]? = some (.inr (5, ws))) (hA : mEnds sc d 74 (mentry 74 (.ref 10 :: [.int (sc.getD (i + 1) 0), .int (sc.getD (i + 2) 0)]) hC) (some (.int u), hC', 0, 0)) (hB : mEnds sc d 156 (mentry 156 (.ref 10 :: [.int (sc.getD (i + 1) 0), .int (sc.getD (i + 2) 0)]) hM) (some (.int w), hM', 0, 0))
    (k : ∀ HS', LR hC' hM' HS' → mFin sc (d + 1) NC NS (1441, lawL i, [], HS', nc, ns)) : mFin sc (d + 1) NC NS (685, lawL i, [], HS, nc, ns) := by
  refine mFin.step (q' := (686, lawL i, .ref 10 :: [], HS, nc, ns)) (step_fetch (i := (685, .aload_n 1, 1, 0, 0, 0)) rfl rfl) mmon_rf ?_
  refine law_arg (k := 1) (by omega) hL rfl rfl rfl rfl rfl ?_
  refine law_arg (k := 2) (by omega) hL rfl rfl rfl rfl rfl ?_
  refine law_C (as := [.int (sc.getD (i + 1) 0), .int (sc.getD (i + 2) 0)]) (st := []) hR (idx := 85) (a := 74) rfl (by decide) rfl (fun _ => rfl) (fun _ => rfl) rfl hc rfl (Nat.le_of_ble_eq_true rfl) hA (fun H1 R1 => ?_)
  refine law_pop rfl rfl ?_
  refine mFin.step (q' := (701, lawL i, .ref 141 :: [], H1, nc, ns)) (step_fetch (i := (700, .aload_n 2, 1, 0, 0, 0)) rfl rfl) mmon_rf ?_
  refine law_arg (k := 1) (by omega) hL rfl rfl rfl rfl rfl ?_
  refine law_arg (k := 2) (by omega) hL rfl rfl rfl rfl rfl ?_
  refine law_M (as := [.int (sc.getD (i + 1) 0), .int (sc.getD (i + 2) 0)]) (st := []) R1 (idx := 88) (a := 156) rfl (by decide) rfl (fun _ => rfl) (fun _ => rfl) rfl hm rfl (Nat.le_of_ble_eq_true rfl) hB (fun H2 R2 => ?_)
  refine law_pop rfl rfl ?_
  exact law_go rfl (by decide) (k H2 R2)
set_option maxRecDepth 100000 in
theorem law_case_18 {u w : Int32} (hL : sc.length < 2 ^ 31) (hi : i + 6 ≤ sc.length) (hR : LR hC hM HS) (hc : hC[10]? = some (.inr (4, vs))) (hm : hM[10]? = some (.inr (5, ws))) (hA : mEnds sc d 75 (mentry 75 (.ref 10 :: []) hC) (some (.int u), hC', 0, 0)) (hB : mEnds sc d 157 (mentry 157 (.ref 10 :: []) hM) (some (.int w), hM', 0, 0))
    (k : ∀ HS', LR hC' hM' HS' → mFin sc (d + 1) NC NS (1441, lawL i, [], HS', nc, ns)) : mFin sc (d + 1) NC NS (718, lawL i, [], HS, nc, ns) := by
  refine mFin.step (q' := (719, lawL i, .ref 10 :: [], HS, nc, ns)) (step_fetch (i := (718, .aload_n 1, 1, 0, 0, 0)) rfl rfl) mmon_rf ?_
  refine law_C (as := []) (st := []) hR (idx := 89) (a := 75) rfl (by decide) rfl (fun _ => rfl) (fun _ => rfl) rfl hc rfl (Nat.le_of_ble_eq_true rfl) hA (fun H1 R1 => ?_)
  refine law_pop rfl rfl ?_
  refine mFin.step (q' := (724, lawL i, .ref 141 :: [], H1, nc, ns)) (step_fetch (i := (723, .aload_n 2, 1, 0, 0, 0)) rfl rfl) mmon_rf ?_
  refine law_M (as := []) (st := []) R1 (idx := 92) (a := 157) rfl (by decide) rfl (fun _ => rfl) (fun _ => rfl) rfl hm rfl (Nat.le_of_ble_eq_true rfl) hB (fun H2 R2 => ?_)
  refine law_pop rfl rfl ?_
  exact law_go rfl (by decide) (k H2 R2)
set_option maxRecDepth 100000 in
theorem law_case_19 {u w : Int32} (hL : sc.length < 2 ^ 31) (hi : i + 6 ≤ sc.length) (hR : LR hC hM HS) (hc : hC[10]? = some (.inr (4, vs))) (hm : hM[10]? = some (.inr (5, ws))) (hA : mEnds sc d 76 (mentry 76 (.ref 10 :: [.int (sc.getD (i + 1) 0), .int (sc.getD (i + 2) 0), .int (sc.getD (i + 3) 0)]) hC) (some (.int u), hC', 0, 0)) (hB : mEnds sc d 159 (mentry 159 (.ref 10 :: [.int (sc.getD (i + 1) 0), .int (sc.getD (i + 2) 0), .int (sc.getD (i + 3) 0)]) hM) (some (.int w), hM', 0, 0))
    (k : ∀ HS', LR hC' hM' HS' → mFin sc (d + 1) NC NS (1441, lawL i, [], HS', nc, ns)) : mFin sc (d + 1) NC NS (731, lawL i, [], HS, nc, ns) := by
  refine mFin.step (q' := (732, lawL i, .ref 10 :: [], HS, nc, ns)) (step_fetch (i := (731, .aload_n 1, 1, 0, 0, 0)) rfl rfl) mmon_rf ?_
  refine law_arg (k := 1) (by omega) hL rfl rfl rfl rfl rfl ?_
  refine law_arg (k := 2) (by omega) hL rfl rfl rfl rfl rfl ?_
  refine law_arg (k := 3) (by omega) hL rfl rfl rfl rfl rfl ?_
  refine law_C (as := [.int (sc.getD (i + 1) 0), .int (sc.getD (i + 2) 0), .int (sc.getD (i + 3) 0)]) (st := []) hR (idx := 93) (a := 76) rfl (by decide) rfl (fun _ => rfl) (fun _ => rfl) rfl hc rfl (Nat.le_of_ble_eq_true rfl) hA (fun H1 R1 => ?_)
  refine law_pop rfl rfl ?_
  refine mFin.step (q' := (752, lawL i, .ref 141 :: [], H1, nc, ns)) (step_fetch (i := (751, .aload_n 2, 1, 0, 0, 0)) rfl rfl) mmon_rf ?_
  refine law_arg (k := 1) (by omega) hL rfl rfl rfl rfl rfl ?_
  refine law_arg (k := 2) (by omega) hL rfl rfl rfl rfl rfl ?_
  refine law_arg (k := 3) (by omega) hL rfl rfl rfl rfl rfl ?_
  refine law_M (as := [.int (sc.getD (i + 1) 0), .int (sc.getD (i + 2) 0), .int (sc.getD (i + 3) 0)]) (st := []) R1 (idx := 96) (a := 159) rfl (by decide) rfl (fun _ => rfl) (fun _ => rfl) rfl hm rfl (Nat.le_of_ble_eq_true rfl) hB (fun H2 R2 => ?_)
  refine law_pop rfl rfl ?_
  exact law_go rfl (by decide) (k H2 R2)
set_option maxRecDepth 100000 in
theorem law_case_20 {u w : Int32} (hL : sc.length < 2 ^ 31) (hi : i + 6 ≤ sc.length) (hR : LR hC hM HS) (hc : hC[10]? = some (.inr (4, vs))) (hm : hM[10]? = some (.inr (5, ws))) (hA : mEnds sc d 77 (mentry 77 (.ref 10 :: [.int (sc.getD (i + 1) 0), .int (sc.getD (i + 2) 0), .int (sc.getD (i + 3) 0)]) hC) (some (.int u), hC', 0, 0)) (hB : mEnds sc d 160 (mentry 160 (.ref 10 :: [.int (sc.getD (i + 1) 0), .int (sc.getD (i + 2) 0), .int (sc.getD (i + 3) 0)]) hM) (some (.int w), hM', 0, 0))
    (k : ∀ HS', LR hC' hM' HS' → mFin sc (d + 1) NC NS (1441, lawL i, [], HS', nc, ns)) : mFin sc (d + 1) NC NS (774, lawL i, [], HS, nc, ns) := by
  refine mFin.step (q' := (775, lawL i, .ref 10 :: [], HS, nc, ns)) (step_fetch (i := (774, .aload_n 1, 1, 0, 0, 0)) rfl rfl) mmon_rf ?_
  refine law_arg (k := 1) (by omega) hL rfl rfl rfl rfl rfl ?_
  refine law_arg (k := 2) (by omega) hL rfl rfl rfl rfl rfl ?_
  refine law_arg (k := 3) (by omega) hL rfl rfl rfl rfl rfl ?_
  refine law_C (as := [.int (sc.getD (i + 1) 0), .int (sc.getD (i + 2) 0), .int (sc.getD (i + 3) 0)]) (st := []) hR (idx := 97) (a := 77) rfl (by decide) rfl (fun _ => rfl) (fun _ => rfl) rfl hc rfl (Nat.le_of_ble_eq_true rfl) hA (fun H1 R1 => ?_)
  refine law_pop rfl rfl ?_
  refine mFin.step (q' := (795, lawL i, .ref 141 :: [], H1, nc, ns)) (step_fetch (i := (794, .aload_n 2, 1, 0, 0, 0)) rfl rfl) mmon_rf ?_
  refine law_arg (k := 1) (by omega) hL rfl rfl rfl rfl rfl ?_
  refine law_arg (k := 2) (by omega) hL rfl rfl rfl rfl rfl ?_
  refine law_arg (k := 3) (by omega) hL rfl rfl rfl rfl rfl ?_
  refine law_M (as := [.int (sc.getD (i + 1) 0), .int (sc.getD (i + 2) 0), .int (sc.getD (i + 3) 0)]) (st := []) R1 (idx := 100) (a := 160) rfl (by decide) rfl (fun _ => rfl) (fun _ => rfl) rfl hm rfl (Nat.le_of_ble_eq_true rfl) hB (fun H2 R2 => ?_)
  refine law_pop rfl rfl ?_
  exact law_go rfl (by decide) (k H2 R2)
set_option maxRecDepth 100000 in
theorem law_case_21 {u w : Int32} (hL : sc.length < 2 ^ 31) (hi : i + 6 ≤ sc.length) (hR : LR hC hM HS) (hc : hC[10]? = some (.inr (4, vs))) (hm : hM[10]? = some (.inr (5, ws))) (hA : mEnds sc d 78 (mentry 78 (.ref 10 :: [.int (sc.getD (i + 1) 0), .int (sc.getD (i + 2) 0)]) hC) (some (.int u), hC', 0, 0)) (hB : mEnds sc d 161 (mentry 161 (.ref 10 :: [.int (sc.getD (i + 1) 0), .int (sc.getD (i + 2) 0)]) hM) (some (.int w), hM', 0, 0))
    (k : ∀ HS', LR hC' hM' HS' → mFin sc (d + 1) NC NS (1441, lawL i, [], HS', nc, ns)) : mFin sc (d + 1) NC NS (817, lawL i, [], HS, nc, ns) := by
  refine mFin.step (q' := (818, lawL i, .ref 10 :: [], HS, nc, ns)) (step_fetch (i := (817, .aload_n 1, 1, 0, 0, 0)) rfl rfl) mmon_rf ?_
  refine law_arg (k := 1) (by omega) hL rfl rfl rfl rfl rfl ?_
  refine law_arg (k := 2) (by omega) hL rfl rfl rfl rfl rfl ?_
  refine law_C (as := [.int (sc.getD (i + 1) 0), .int (sc.getD (i + 2) 0)]) (st := []) hR (idx := 101) (a := 78) rfl (by decide) rfl (fun _ => rfl) (fun _ => rfl) rfl hc rfl (Nat.le_of_ble_eq_true rfl) hA (fun H1 R1 => ?_)
  refine law_pop rfl rfl ?_
  refine mFin.step (q' := (833, lawL i, .ref 141 :: [], H1, nc, ns)) (step_fetch (i := (832, .aload_n 2, 1, 0, 0, 0)) rfl rfl) mmon_rf ?_
  refine law_arg (k := 1) (by omega) hL rfl rfl rfl rfl rfl ?_
  refine law_arg (k := 2) (by omega) hL rfl rfl rfl rfl rfl ?_
  refine law_M (as := [.int (sc.getD (i + 1) 0), .int (sc.getD (i + 2) 0)]) (st := []) R1 (idx := 104) (a := 161) rfl (by decide) rfl (fun _ => rfl) (fun _ => rfl) rfl hm rfl (Nat.le_of_ble_eq_true rfl) hB (fun H2 R2 => ?_)
  refine law_pop rfl rfl ?_
  exact law_go rfl (by decide) (k H2 R2)
set_option maxRecDepth 100000 in
theorem law_case_22 {u w : Int32} (hL : sc.length < 2 ^ 31) (hi : i + 6 ≤ sc.length) (hR : LR hC hM HS) (hc : hC[10]? = some (.inr (4, vs))) (hm : hM[10]? = some (.inr (5, ws))) (hA : mEnds sc d 79 (mentry 79 (.ref 10 :: [.int (sc.getD (i + 1) 0), .int (sc.getD (i + 2) 0)]) hC) (some (.int u), hC', 0, 0)) (hB : mEnds sc d 162 (mentry 162 (.ref 10 :: [.int (sc.getD (i + 1) 0), .int (sc.getD (i + 2) 0)]) hM) (some (.int w), hM', 0, 0))
    (k : ∀ HS', LR hC' hM' HS' → mFin sc (d + 1) NC NS (1441, lawL i, [], HS', nc, ns)) : mFin sc (d + 1) NC NS (850, lawL i, [], HS, nc, ns) := by
  refine mFin.step (q' := (851, lawL i, .ref 10 :: [], HS, nc, ns)) (step_fetch (i := (850, .aload_n 1, 1, 0, 0, 0)) rfl rfl) mmon_rf ?_
  refine law_arg (k := 1) (by omega) hL rfl rfl rfl rfl rfl ?_
  refine law_arg (k := 2) (by omega) hL rfl rfl rfl rfl rfl ?_
  refine law_C (as := [.int (sc.getD (i + 1) 0), .int (sc.getD (i + 2) 0)]) (st := []) hR (idx := 105) (a := 79) rfl (by decide) rfl (fun _ => rfl) (fun _ => rfl) rfl hc rfl (Nat.le_of_ble_eq_true rfl) hA (fun H1 R1 => ?_)
  refine law_pop rfl rfl ?_
  refine mFin.step (q' := (866, lawL i, .ref 141 :: [], H1, nc, ns)) (step_fetch (i := (865, .aload_n 2, 1, 0, 0, 0)) rfl rfl) mmon_rf ?_
  refine law_arg (k := 1) (by omega) hL rfl rfl rfl rfl rfl ?_
  refine law_arg (k := 2) (by omega) hL rfl rfl rfl rfl rfl ?_
  refine law_M (as := [.int (sc.getD (i + 1) 0), .int (sc.getD (i + 2) 0)]) (st := []) R1 (idx := 108) (a := 162) rfl (by decide) rfl (fun _ => rfl) (fun _ => rfl) rfl hm rfl (Nat.le_of_ble_eq_true rfl) hB (fun H2 R2 => ?_)
  refine law_pop rfl rfl ?_
  exact law_go rfl (by decide) (k H2 R2)
set_option maxRecDepth 100000 in
theorem law_case_23 {u w : Int32} (hL : sc.length < 2 ^ 31) (hi : i + 6 ≤ sc.length) (hR : LR hC hM HS) (hc : hC[10]? = some (.inr (4, vs))) (hm : hM[10]? = some (.inr (5, ws))) (hA : mEnds sc d 80 (mentry 80 (.ref 10 :: [.int (sc.getD (i + 1) 0), .int (sc.getD (i + 2) 0), .int (sc.getD (i + 3) 0)]) hC) (some (.int u), hC', 0, 0)) (hB : mEnds sc d 163 (mentry 163 (.ref 10 :: [.int (sc.getD (i + 1) 0), .int (sc.getD (i + 2) 0), .int (sc.getD (i + 3) 0)]) hM) (some (.int w), hM', 0, 0))
    (k : ∀ HS', LR hC' hM' HS' → mFin sc (d + 1) NC NS (1441, lawL i, [], HS', nc, ns)) : mFin sc (d + 1) NC NS (883, lawL i, [], HS, nc, ns) := by
  refine mFin.step (q' := (884, lawL i, .ref 10 :: [], HS, nc, ns)) (step_fetch (i := (883, .aload_n 1, 1, 0, 0, 0)) rfl rfl) mmon_rf ?_
  refine law_arg (k := 1) (by omega) hL rfl rfl rfl rfl rfl ?_
  refine law_arg (k := 2) (by omega) hL rfl rfl rfl rfl rfl ?_
  refine law_arg (k := 3) (by omega) hL rfl rfl rfl rfl rfl ?_
  refine law_C (as := [.int (sc.getD (i + 1) 0), .int (sc.getD (i + 2) 0), .int (sc.getD (i + 3) 0)]) (st := []) hR (idx := 109) (a := 80) rfl (by decide) rfl (fun _ => rfl) (fun _ => rfl) rfl hc rfl (Nat.le_of_ble_eq_true rfl) hA (fun H1 R1 => ?_)
  refine law_pop rfl rfl ?_
  refine mFin.step (q' := (904, lawL i, .ref 141 :: [], H1, nc, ns)) (step_fetch (i := (903, .aload_n 2, 1, 0, 0, 0)) rfl rfl) mmon_rf ?_
  refine law_arg (k := 1) (by omega) hL rfl rfl rfl rfl rfl ?_
  refine law_arg (k := 2) (by omega) hL rfl rfl rfl rfl rfl ?_
  refine law_arg (k := 3) (by omega) hL rfl rfl rfl rfl rfl ?_
  refine law_M (as := [.int (sc.getD (i + 1) 0), .int (sc.getD (i + 2) 0), .int (sc.getD (i + 3) 0)]) (st := []) R1 (idx := 112) (a := 163) rfl (by decide) rfl (fun _ => rfl) (fun _ => rfl) rfl hm rfl (Nat.le_of_ble_eq_true rfl) hB (fun H2 R2 => ?_)
  refine law_pop rfl rfl ?_
  exact law_go rfl (by decide) (k H2 R2)
set_option maxRecDepth 100000 in
theorem law_case_24 {u w : Int64} (hL : sc.length < 2 ^ 31) (hi : i + 6 ≤ sc.length) (hR : LR hC hM HS) (hc : hC[10]? = some (.inr (4, vs))) (hm : hM[10]? = some (.inr (5, ws))) (hA : mEnds sc d 81 (mentry 81 (.ref 10 :: [.int (sc.getD (i + 1) 0), .int (sc.getD (i + 2) 0), .int (sc.getD (i + 3) 0), .int (sc.getD (i + 4) 0), .int (sc.getD (i + 5) 0)]) hC) (some (.long u), hC', 0, 0)) (hB : mEnds sc d 166 (mentry 166 (.ref 10 :: [.int (sc.getD (i + 1) 0), .int (sc.getD (i + 2) 0), .int (sc.getD (i + 3) 0), .int (sc.getD (i + 4) 0), .int (sc.getD (i + 5) 0)]) hM) (some (.long w), hM', 0, 0))
    (k : ∀ HS', LR hC' hM' HS' → mFin sc (d + 1) NC NS (1441, lawL i, [], HS', nc, ns)) : mFin sc (d + 1) NC NS (926, lawL i, [], HS, nc, ns) := by
  refine mFin.step (q' := (927, lawL i, .ref 10 :: [], HS, nc, ns)) (step_fetch (i := (926, .aload_n 1, 1, 0, 0, 0)) rfl rfl) mmon_rf ?_
  refine law_arg (k := 1) (by omega) hL rfl rfl rfl rfl rfl ?_
  refine law_arg (k := 2) (by omega) hL rfl rfl rfl rfl rfl ?_
  refine law_arg (k := 3) (by omega) hL rfl rfl rfl rfl rfl ?_
  refine law_arg (k := 4) (by omega) hL rfl rfl rfl rfl rfl ?_
  refine law_arg (k := 5) (by omega) hL rfl rfl rfl rfl rfl ?_
  refine law_C (as := [.int (sc.getD (i + 1) 0), .int (sc.getD (i + 2) 0), .int (sc.getD (i + 3) 0), .int (sc.getD (i + 4) 0), .int (sc.getD (i + 5) 0)]) (st := []) hR (idx := 113) (a := 81) rfl (by decide) rfl (fun _ => rfl) (fun _ => rfl) rfl hc rfl (Nat.le_of_ble_eq_true rfl) hA (fun H1 R1 => ?_)
  refine law_pop2 rfl rfl ?_
  refine mFin.step (q' := (957, lawL i, .ref 141 :: [], H1, nc, ns)) (step_fetch (i := (956, .aload_n 2, 1, 0, 0, 0)) rfl rfl) mmon_rf ?_
  refine law_arg (k := 1) (by omega) hL rfl rfl rfl rfl rfl ?_
  refine law_arg (k := 2) (by omega) hL rfl rfl rfl rfl rfl ?_
  refine law_arg (k := 3) (by omega) hL rfl rfl rfl rfl rfl ?_
  refine law_arg (k := 4) (by omega) hL rfl rfl rfl rfl rfl ?_
  refine law_arg (k := 5) (by omega) hL rfl rfl rfl rfl rfl ?_
  refine law_M (as := [.int (sc.getD (i + 1) 0), .int (sc.getD (i + 2) 0), .int (sc.getD (i + 3) 0), .int (sc.getD (i + 4) 0), .int (sc.getD (i + 5) 0)]) (st := []) R1 (idx := 117) (a := 166) rfl (by decide) rfl (fun _ => rfl) (fun _ => rfl) rfl hm rfl (Nat.le_of_ble_eq_true rfl) hB (fun H2 R2 => ?_)
  refine law_pop2 rfl rfl ?_
  exact law_go rfl (by decide) (k H2 R2)
set_option maxRecDepth 100000 in
theorem law_case_25 {u w : Int64} (hL : sc.length < 2 ^ 31) (hi : i + 6 ≤ sc.length) (hR : LR hC hM HS) (hc : hC[10]? = some (.inr (4, vs))) (hm : hM[10]? = some (.inr (5, ws))) (hA : mEnds sc d 82 (mentry 82 (.ref 10 :: [.int (sc.getD (i + 1) 0), .int (sc.getD (i + 2) 0), .int (sc.getD (i + 3) 0)]) hC) (some (.long u), hC', 0, 0)) (hB : mEnds sc d 167 (mentry 167 (.ref 10 :: [.int (sc.getD (i + 1) 0), .int (sc.getD (i + 2) 0), .int (sc.getD (i + 3) 0)]) hM) (some (.long w), hM', 0, 0))
    (k : ∀ HS', LR hC' hM' HS' → mFin sc (d + 1) NC NS (1441, lawL i, [], HS', nc, ns)) : mFin sc (d + 1) NC NS (989, lawL i, [], HS, nc, ns) := by
  refine mFin.step (q' := (990, lawL i, .ref 10 :: [], HS, nc, ns)) (step_fetch (i := (989, .aload_n 1, 1, 0, 0, 0)) rfl rfl) mmon_rf ?_
  refine law_arg (k := 1) (by omega) hL rfl rfl rfl rfl rfl ?_
  refine law_arg (k := 2) (by omega) hL rfl rfl rfl rfl rfl ?_
  refine law_arg (k := 3) (by omega) hL rfl rfl rfl rfl rfl ?_
  refine law_C (as := [.int (sc.getD (i + 1) 0), .int (sc.getD (i + 2) 0), .int (sc.getD (i + 3) 0)]) (st := []) hR (idx := 118) (a := 82) rfl (by decide) rfl (fun _ => rfl) (fun _ => rfl) rfl hc rfl (Nat.le_of_ble_eq_true rfl) hA (fun H1 R1 => ?_)
  refine law_pop2 rfl rfl ?_
  refine mFin.step (q' := (1010, lawL i, .ref 141 :: [], H1, nc, ns)) (step_fetch (i := (1009, .aload_n 2, 1, 0, 0, 0)) rfl rfl) mmon_rf ?_
  refine law_arg (k := 1) (by omega) hL rfl rfl rfl rfl rfl ?_
  refine law_arg (k := 2) (by omega) hL rfl rfl rfl rfl rfl ?_
  refine law_arg (k := 3) (by omega) hL rfl rfl rfl rfl rfl ?_
  refine law_M (as := [.int (sc.getD (i + 1) 0), .int (sc.getD (i + 2) 0), .int (sc.getD (i + 3) 0)]) (st := []) R1 (idx := 122) (a := 167) rfl (by decide) rfl (fun _ => rfl) (fun _ => rfl) rfl hm rfl (Nat.le_of_ble_eq_true rfl) hB (fun H2 R2 => ?_)
  refine law_pop2 rfl rfl ?_
  exact law_go rfl (by decide) (k H2 R2)
set_option maxRecDepth 100000 in
theorem law_case_26 {u w : Int32} (hL : sc.length < 2 ^ 31) (hi : i + 6 ≤ sc.length) (hR : LR hC hM HS) (hc : hC[10]? = some (.inr (4, vs))) (hm : hM[10]? = some (.inr (5, ws))) (hA : mEnds sc d 89 (mentry 89 (.ref 10 :: [.int (sc.getD (i + 1) 0), .int (sc.getD (i + 2) 0), .int (sc.getD (i + 3) 0)]) hC) (some (.int u), hC', 0, 0)) (hB : mEnds sc d 168 (mentry 168 (.ref 10 :: [.int (sc.getD (i + 1) 0), .int (sc.getD (i + 2) 0), .int (sc.getD (i + 3) 0)]) hM) (some (.int w), hM', 0, 0))
    (k : ∀ HS', LR hC' hM' HS' → mFin sc (d + 1) NC NS (1441, lawL i, [], HS', nc, ns)) : mFin sc (d + 1) NC NS (1032, lawL i, [], HS, nc, ns) := by
  refine mFin.step (q' := (1033, lawL i, .ref 10 :: [], HS, nc, ns)) (step_fetch (i := (1032, .aload_n 1, 1, 0, 0, 0)) rfl rfl) mmon_rf ?_
  refine law_arg (k := 1) (by omega) hL rfl rfl rfl rfl rfl ?_
  refine law_arg (k := 2) (by omega) hL rfl rfl rfl rfl rfl ?_
  refine law_arg (k := 3) (by omega) hL rfl rfl rfl rfl rfl ?_
  refine law_C (as := [.int (sc.getD (i + 1) 0), .int (sc.getD (i + 2) 0), .int (sc.getD (i + 3) 0)]) (st := []) hR (idx := 123) (a := 89) rfl (by decide) rfl (fun _ => rfl) (fun _ => rfl) rfl hc rfl (Nat.le_of_ble_eq_true rfl) hA (fun H1 R1 => ?_)
  refine law_pop rfl rfl ?_
  refine mFin.step (q' := (1053, lawL i, .ref 141 :: [], H1, nc, ns)) (step_fetch (i := (1052, .aload_n 2, 1, 0, 0, 0)) rfl rfl) mmon_rf ?_
  refine law_arg (k := 1) (by omega) hL rfl rfl rfl rfl rfl ?_
  refine law_arg (k := 2) (by omega) hL rfl rfl rfl rfl rfl ?_
  refine law_arg (k := 3) (by omega) hL rfl rfl rfl rfl rfl ?_
  refine law_M (as := [.int (sc.getD (i + 1) 0), .int (sc.getD (i + 2) 0), .int (sc.getD (i + 3) 0)]) (st := []) R1 (idx := 126) (a := 168) rfl (by decide) rfl (fun _ => rfl) (fun _ => rfl) rfl hm rfl (Nat.le_of_ble_eq_true rfl) hB (fun H2 R2 => ?_)
  refine law_pop rfl rfl ?_
  exact law_go rfl (by decide) (k H2 R2)
set_option maxRecDepth 100000 in
theorem law_case_27 {u w : Int32} (hL : sc.length < 2 ^ 31) (hi : i + 6 ≤ sc.length) (hR : LR hC hM HS) (hc : hC[10]? = some (.inr (4, vs))) (hm : hM[10]? = some (.inr (5, ws))) (hA : mEnds sc d 90 (mentry 90 (.ref 10 :: [.int (sc.getD (i + 1) 0)]) hC) (some (.int u), hC', 0, 0)) (hB : mEnds sc d 169 (mentry 169 (.ref 10 :: [.int (sc.getD (i + 1) 0)]) hM) (some (.int w), hM', 0, 0))
    (k : ∀ HS', LR hC' hM' HS' → mFin sc (d + 1) NC NS (1441, lawL i, [], HS', nc, ns)) : mFin sc (d + 1) NC NS (1075, lawL i, [], HS, nc, ns) := by
  refine mFin.step (q' := (1076, lawL i, .ref 10 :: [], HS, nc, ns)) (step_fetch (i := (1075, .aload_n 1, 1, 0, 0, 0)) rfl rfl) mmon_rf ?_
  refine law_arg (k := 1) (by omega) hL rfl rfl rfl rfl rfl ?_
  refine law_C (as := [.int (sc.getD (i + 1) 0)]) (st := []) hR (idx := 127) (a := 90) rfl (by decide) rfl (fun _ => rfl) (fun _ => rfl) rfl hc rfl (Nat.le_of_ble_eq_true rfl) hA (fun H1 R1 => ?_)
  refine law_pop rfl rfl ?_
  refine mFin.step (q' := (1086, lawL i, .ref 141 :: [], H1, nc, ns)) (step_fetch (i := (1085, .aload_n 2, 1, 0, 0, 0)) rfl rfl) mmon_rf ?_
  refine law_arg (k := 1) (by omega) hL rfl rfl rfl rfl rfl ?_
  refine law_M (as := [.int (sc.getD (i + 1) 0)]) (st := []) R1 (idx := 130) (a := 169) rfl (by decide) rfl (fun _ => rfl) (fun _ => rfl) rfl hm rfl (Nat.le_of_ble_eq_true rfl) hB (fun H2 R2 => ?_)
  refine law_pop rfl rfl ?_
  exact law_go rfl (by decide) (k H2 R2)
set_option maxRecDepth 100000 in
theorem law_case_28 {u w : Int32} (hL : sc.length < 2 ^ 31) (hi : i + 6 ≤ sc.length) (hR : LR hC hM HS) (hc : hC[10]? = some (.inr (4, vs))) (hm : hM[10]? = some (.inr (5, ws))) (hA : mEnds sc d 91 (mentry 91 (.ref 10 :: [.int (sc.getD (i + 1) 0)]) hC) (some (.int u), hC', 0, 0)) (hB : mEnds sc d 172 (mentry 172 (.ref 10 :: [.int (sc.getD (i + 1) 0)]) hM) (some (.int w), hM', 0, 0))
    (k : ∀ HS', LR hC' hM' HS' → mFin sc (d + 1) NC NS (1441, lawL i, [], HS', nc, ns)) : mFin sc (d + 1) NC NS (1098, lawL i, [], HS, nc, ns) := by
  refine mFin.step (q' := (1099, lawL i, .ref 10 :: [], HS, nc, ns)) (step_fetch (i := (1098, .aload_n 1, 1, 0, 0, 0)) rfl rfl) mmon_rf ?_
  refine law_arg (k := 1) (by omega) hL rfl rfl rfl rfl rfl ?_
  refine law_C (as := [.int (sc.getD (i + 1) 0)]) (st := []) hR (idx := 131) (a := 91) rfl (by decide) rfl (fun _ => rfl) (fun _ => rfl) rfl hc rfl (Nat.le_of_ble_eq_true rfl) hA (fun H1 R1 => ?_)
  refine law_pop rfl rfl ?_
  refine mFin.step (q' := (1109, lawL i, .ref 141 :: [], H1, nc, ns)) (step_fetch (i := (1108, .aload_n 2, 1, 0, 0, 0)) rfl rfl) mmon_rf ?_
  refine law_arg (k := 1) (by omega) hL rfl rfl rfl rfl rfl ?_
  refine law_M (as := [.int (sc.getD (i + 1) 0)]) (st := []) R1 (idx := 134) (a := 172) rfl (by decide) rfl (fun _ => rfl) (fun _ => rfl) rfl hm rfl (Nat.le_of_ble_eq_true rfl) hB (fun H2 R2 => ?_)
  refine law_pop rfl rfl ?_
  exact law_go rfl (by decide) (k H2 R2)
set_option maxRecDepth 100000 in
theorem law_case_29 {u w : Int32} (hL : sc.length < 2 ^ 31) (hi : i + 6 ≤ sc.length) (hR : LR hC hM HS) (hc : hC[10]? = some (.inr (4, vs))) (hm : hM[10]? = some (.inr (5, ws))) (hA : mEnds sc d 92 (mentry 92 (.ref 10 :: [.int (sc.getD (i + 1) 0)]) hC) (some (.int u), hC', 0, 0)) (hB : mEnds sc d 173 (mentry 173 (.ref 10 :: [.int (sc.getD (i + 1) 0)]) hM) (some (.int w), hM', 0, 0))
    (k : ∀ HS', LR hC' hM' HS' → mFin sc (d + 1) NC NS (1441, lawL i, [], HS', nc, ns)) : mFin sc (d + 1) NC NS (1121, lawL i, [], HS, nc, ns) := by
  refine mFin.step (q' := (1122, lawL i, .ref 10 :: [], HS, nc, ns)) (step_fetch (i := (1121, .aload_n 1, 1, 0, 0, 0)) rfl rfl) mmon_rf ?_
  refine law_arg (k := 1) (by omega) hL rfl rfl rfl rfl rfl ?_
  refine law_C (as := [.int (sc.getD (i + 1) 0)]) (st := []) hR (idx := 135) (a := 92) rfl (by decide) rfl (fun _ => rfl) (fun _ => rfl) rfl hc rfl (Nat.le_of_ble_eq_true rfl) hA (fun H1 R1 => ?_)
  refine law_pop rfl rfl ?_
  refine mFin.step (q' := (1132, lawL i, .ref 141 :: [], H1, nc, ns)) (step_fetch (i := (1131, .aload_n 2, 1, 0, 0, 0)) rfl rfl) mmon_rf ?_
  refine law_arg (k := 1) (by omega) hL rfl rfl rfl rfl rfl ?_
  refine law_M (as := [.int (sc.getD (i + 1) 0)]) (st := []) R1 (idx := 138) (a := 173) rfl (by decide) rfl (fun _ => rfl) (fun _ => rfl) rfl hm rfl (Nat.le_of_ble_eq_true rfl) hB (fun H2 R2 => ?_)
  refine law_pop rfl rfl ?_
  exact law_go rfl (by decide) (k H2 R2)
set_option maxRecDepth 100000 in
theorem law_case_30 {u w : Int32} (hL : sc.length < 2 ^ 31) (hi : i + 6 ≤ sc.length) (hR : LR hC hM HS) (hc : hC[10]? = some (.inr (4, vs))) (hm : hM[10]? = some (.inr (5, ws))) (hA : mEnds sc d 94 (mentry 94 (.ref 10 :: [.int (sc.getD (i + 1) 0), .int (sc.getD (i + 2) 0)]) hC) (some (.int u), hC', 0, 0)) (hB : mEnds sc d 175 (mentry 175 (.ref 10 :: [.int (sc.getD (i + 1) 0), .int (sc.getD (i + 2) 0)]) hM) (some (.int w), hM', 0, 0))
    (k : ∀ HS', LR hC' hM' HS' → mFin sc (d + 1) NC NS (1441, lawL i, [], HS', nc, ns)) : mFin sc (d + 1) NC NS (1144, lawL i, [], HS, nc, ns) := by
  refine mFin.step (q' := (1145, lawL i, .ref 10 :: [], HS, nc, ns)) (step_fetch (i := (1144, .aload_n 1, 1, 0, 0, 0)) rfl rfl) mmon_rf ?_
  refine law_arg (k := 1) (by omega) hL rfl rfl rfl rfl rfl ?_
  refine law_arg (k := 2) (by omega) hL rfl rfl rfl rfl rfl ?_
  refine law_C (as := [.int (sc.getD (i + 1) 0), .int (sc.getD (i + 2) 0)]) (st := []) hR (idx := 139) (a := 94) rfl (by decide) rfl (fun _ => rfl) (fun _ => rfl) rfl hc rfl (Nat.le_of_ble_eq_true rfl) hA (fun H1 R1 => ?_)
  refine law_pop rfl rfl ?_
  refine mFin.step (q' := (1160, lawL i, .ref 141 :: [], H1, nc, ns)) (step_fetch (i := (1159, .aload_n 2, 1, 0, 0, 0)) rfl rfl) mmon_rf ?_
  refine law_arg (k := 1) (by omega) hL rfl rfl rfl rfl rfl ?_
  refine law_arg (k := 2) (by omega) hL rfl rfl rfl rfl rfl ?_
  refine law_M (as := [.int (sc.getD (i + 1) 0), .int (sc.getD (i + 2) 0)]) (st := []) R1 (idx := 142) (a := 175) rfl (by decide) rfl (fun _ => rfl) (fun _ => rfl) rfl hm rfl (Nat.le_of_ble_eq_true rfl) hB (fun H2 R2 => ?_)
  refine law_pop rfl rfl ?_
  exact law_go rfl (by decide) (k H2 R2)
set_option maxRecDepth 100000 in
theorem law_case_31 {u w : Int32} (hL : sc.length < 2 ^ 31) (hi : i + 6 ≤ sc.length) (hR : LR hC hM HS) (hc : hC[10]? = some (.inr (4, vs))) (hm : hM[10]? = some (.inr (5, ws))) (hA : mEnds sc d 97 (mentry 97 (.ref 10 :: [.int (sc.getD (i + 1) 0), .int (sc.getD (i + 2) 0), .int (sc.getD (i + 3) 0)]) hC) (some (.int u), hC', 0, 0)) (hB : mEnds sc d 176 (mentry 176 (.ref 10 :: [.int (sc.getD (i + 1) 0), .int (sc.getD (i + 2) 0), .int (sc.getD (i + 3) 0)]) hM) (some (.int w), hM', 0, 0))
    (k : ∀ HS', LR hC' hM' HS' → mFin sc (d + 1) NC NS (1441, lawL i, [], HS', nc, ns)) : mFin sc (d + 1) NC NS (1177, lawL i, [], HS, nc, ns) := by
  refine mFin.step (q' := (1178, lawL i, .ref 10 :: [], HS, nc, ns)) (step_fetch (i := (1177, .aload_n 1, 1, 0, 0, 0)) rfl rfl) mmon_rf ?_
  refine law_arg (k := 1) (by omega) hL rfl rfl rfl rfl rfl ?_
  refine law_arg (k := 2) (by omega) hL rfl rfl rfl rfl rfl ?_
  refine law_arg (k := 3) (by omega) hL rfl rfl rfl rfl rfl ?_
  refine law_C (as := [.int (sc.getD (i + 1) 0), .int (sc.getD (i + 2) 0), .int (sc.getD (i + 3) 0)]) (st := []) hR (idx := 143) (a := 97) rfl (by decide) rfl (fun _ => rfl) (fun _ => rfl) rfl hc rfl (Nat.le_of_ble_eq_true rfl) hA (fun H1 R1 => ?_)
  refine law_pop rfl rfl ?_
  refine mFin.step (q' := (1198, lawL i, .ref 141 :: [], H1, nc, ns)) (step_fetch (i := (1197, .aload_n 2, 1, 0, 0, 0)) rfl rfl) mmon_rf ?_
  refine law_arg (k := 1) (by omega) hL rfl rfl rfl rfl rfl ?_
  refine law_arg (k := 2) (by omega) hL rfl rfl rfl rfl rfl ?_
  refine law_arg (k := 3) (by omega) hL rfl rfl rfl rfl rfl ?_
  refine law_M (as := [.int (sc.getD (i + 1) 0), .int (sc.getD (i + 2) 0), .int (sc.getD (i + 3) 0)]) (st := []) R1 (idx := 146) (a := 176) rfl (by decide) rfl (fun _ => rfl) (fun _ => rfl) rfl hm rfl (Nat.le_of_ble_eq_true rfl) hB (fun H2 R2 => ?_)
  refine law_pop rfl rfl ?_
  exact law_go rfl (by decide) (k H2 R2)
set_option maxRecDepth 100000 in
theorem law_case_32 {u w : Int32} (hL : sc.length < 2 ^ 31) (hi : i + 6 ≤ sc.length) (hR : LR hC hM HS) (hc : hC[10]? = some (.inr (4, vs))) (hm : hM[10]? = some (.inr (5, ws))) (hA : mEnds sc d 98 (mentry 98 (.ref 10 :: [.int (sc.getD (i + 1) 0)]) hC) (some (.int u), hC', 0, 0)) (hB : mEnds sc d 177 (mentry 177 (.ref 10 :: [.int (sc.getD (i + 1) 0)]) hM) (some (.int w), hM', 0, 0))
    (k : ∀ HS', LR hC' hM' HS' → mFin sc (d + 1) NC NS (1441, lawL i, [], HS', nc, ns)) : mFin sc (d + 1) NC NS (1220, lawL i, [], HS, nc, ns) := by
  refine mFin.step (q' := (1221, lawL i, .ref 10 :: [], HS, nc, ns)) (step_fetch (i := (1220, .aload_n 1, 1, 0, 0, 0)) rfl rfl) mmon_rf ?_
  refine law_arg (k := 1) (by omega) hL rfl rfl rfl rfl rfl ?_
  refine law_C (as := [.int (sc.getD (i + 1) 0)]) (st := []) hR (idx := 147) (a := 98) rfl (by decide) rfl (fun _ => rfl) (fun _ => rfl) rfl hc rfl (Nat.le_of_ble_eq_true rfl) hA (fun H1 R1 => ?_)
  refine law_pop rfl rfl ?_
  refine mFin.step (q' := (1231, lawL i, .ref 141 :: [], H1, nc, ns)) (step_fetch (i := (1230, .aload_n 2, 1, 0, 0, 0)) rfl rfl) mmon_rf ?_
  refine law_arg (k := 1) (by omega) hL rfl rfl rfl rfl rfl ?_
  refine law_M (as := [.int (sc.getD (i + 1) 0)]) (st := []) R1 (idx := 150) (a := 177) rfl (by decide) rfl (fun _ => rfl) (fun _ => rfl) rfl hm rfl (Nat.le_of_ble_eq_true rfl) hB (fun H2 R2 => ?_)
  refine law_pop rfl rfl ?_
  exact law_go rfl (by decide) (k H2 R2)
set_option maxRecDepth 100000 in
theorem law_case_33 {u w : Int32} (hL : sc.length < 2 ^ 31) (hi : i + 6 ≤ sc.length) (hR : LR hC hM HS) (hc : hC[10]? = some (.inr (4, vs))) (hm : hM[10]? = some (.inr (5, ws))) (hA : mEnds sc d 99 (mentry 99 (.ref 10 :: [.int (sc.getD (i + 1) 0)]) hC) (some (.int u), hC', 0, 0)) (hB : mEnds sc d 178 (mentry 178 (.ref 10 :: [.int (sc.getD (i + 1) 0)]) hM) (some (.int w), hM', 0, 0))
    (k : ∀ HS', LR hC' hM' HS' → mFin sc (d + 1) NC NS (1441, lawL i, [], HS', nc, ns)) : mFin sc (d + 1) NC NS (1243, lawL i, [], HS, nc, ns) := by
  refine mFin.step (q' := (1244, lawL i, .ref 10 :: [], HS, nc, ns)) (step_fetch (i := (1243, .aload_n 1, 1, 0, 0, 0)) rfl rfl) mmon_rf ?_
  refine law_arg (k := 1) (by omega) hL rfl rfl rfl rfl rfl ?_
  refine law_C (as := [.int (sc.getD (i + 1) 0)]) (st := []) hR (idx := 151) (a := 99) rfl (by decide) rfl (fun _ => rfl) (fun _ => rfl) rfl hc rfl (Nat.le_of_ble_eq_true rfl) hA (fun H1 R1 => ?_)
  refine law_pop rfl rfl ?_
  refine mFin.step (q' := (1254, lawL i, .ref 141 :: [], H1, nc, ns)) (step_fetch (i := (1253, .aload_n 2, 1, 0, 0, 0)) rfl rfl) mmon_rf ?_
  refine law_arg (k := 1) (by omega) hL rfl rfl rfl rfl rfl ?_
  refine law_M (as := [.int (sc.getD (i + 1) 0)]) (st := []) R1 (idx := 154) (a := 178) rfl (by decide) rfl (fun _ => rfl) (fun _ => rfl) rfl hm rfl (Nat.le_of_ble_eq_true rfl) hB (fun H2 R2 => ?_)
  refine law_pop rfl rfl ?_
  exact law_go rfl (by decide) (k H2 R2)
set_option maxRecDepth 100000 in
theorem law_case_34 {u w : Int32} (hL : sc.length < 2 ^ 31) (hi : i + 6 ≤ sc.length) (hR : LR hC hM HS) (hc : hC[10]? = some (.inr (4, vs))) (hm : hM[10]? = some (.inr (5, ws))) (hA : mEnds sc d 100 (mentry 100 (.ref 10 :: [.int (sc.getD (i + 1) 0), .int (sc.getD (i + 2) 0), .int (sc.getD (i + 3) 0)]) hC) (some (.int u), hC', 0, 0)) (hB : mEnds sc d 179 (mentry 179 (.ref 10 :: [.int (sc.getD (i + 1) 0), .int (sc.getD (i + 2) 0), .int (sc.getD (i + 3) 0)]) hM) (some (.int w), hM', 0, 0))
    (k : ∀ HS', LR hC' hM' HS' → mFin sc (d + 1) NC NS (1441, lawL i, [], HS', nc, ns)) : mFin sc (d + 1) NC NS (1266, lawL i, [], HS, nc, ns) := by
  refine mFin.step (q' := (1267, lawL i, .ref 10 :: [], HS, nc, ns)) (step_fetch (i := (1266, .aload_n 1, 1, 0, 0, 0)) rfl rfl) mmon_rf ?_
  refine law_arg (k := 1) (by omega) hL rfl rfl rfl rfl rfl ?_
  refine law_arg (k := 2) (by omega) hL rfl rfl rfl rfl rfl ?_
  refine law_arg (k := 3) (by omega) hL rfl rfl rfl rfl rfl ?_
  refine law_C (as := [.int (sc.getD (i + 1) 0), .int (sc.getD (i + 2) 0), .int (sc.getD (i + 3) 0)]) (st := []) hR (idx := 155) (a := 100) rfl (by decide) rfl (fun _ => rfl) (fun _ => rfl) rfl hc rfl (Nat.le_of_ble_eq_true rfl) hA (fun H1 R1 => ?_)
  refine law_pop rfl rfl ?_
  refine mFin.step (q' := (1287, lawL i, .ref 141 :: [], H1, nc, ns)) (step_fetch (i := (1286, .aload_n 2, 1, 0, 0, 0)) rfl rfl) mmon_rf ?_
  refine law_arg (k := 1) (by omega) hL rfl rfl rfl rfl rfl ?_
  refine law_arg (k := 2) (by omega) hL rfl rfl rfl rfl rfl ?_
  refine law_arg (k := 3) (by omega) hL rfl rfl rfl rfl rfl ?_
  refine law_M (as := [.int (sc.getD (i + 1) 0), .int (sc.getD (i + 2) 0), .int (sc.getD (i + 3) 0)]) (st := []) R1 (idx := 158) (a := 179) rfl (by decide) rfl (fun _ => rfl) (fun _ => rfl) rfl hm rfl (Nat.le_of_ble_eq_true rfl) hB (fun H2 R2 => ?_)
  refine law_pop rfl rfl ?_
  exact law_go rfl (by decide) (k H2 R2)
set_option maxRecDepth 100000 in
theorem law_case_35 {u w : Int32} (hL : sc.length < 2 ^ 31) (hi : i + 6 ≤ sc.length) (hR : LR hC hM HS) (hc : hC[10]? = some (.inr (4, vs))) (hm : hM[10]? = some (.inr (5, ws))) (hA : mEnds sc d 101 (mentry 101 (.ref 10 :: [.int (sc.getD (i + 1) 0), .int (sc.getD (i + 2) 0), .int (sc.getD (i + 3) 0)]) hC) (some (.int u), hC', 0, 0)) (hB : mEnds sc d 180 (mentry 180 (.ref 10 :: [.int (sc.getD (i + 1) 0), .int (sc.getD (i + 2) 0), .int (sc.getD (i + 3) 0)]) hM) (some (.int w), hM', 0, 0))
    (k : ∀ HS', LR hC' hM' HS' → mFin sc (d + 1) NC NS (1441, lawL i, [], HS', nc, ns)) : mFin sc (d + 1) NC NS (1309, lawL i, [], HS, nc, ns) := by
  refine mFin.step (q' := (1310, lawL i, .ref 10 :: [], HS, nc, ns)) (step_fetch (i := (1309, .aload_n 1, 1, 0, 0, 0)) rfl rfl) mmon_rf ?_
  refine law_arg (k := 1) (by omega) hL rfl rfl rfl rfl rfl ?_
  refine law_arg (k := 2) (by omega) hL rfl rfl rfl rfl rfl ?_
  refine law_arg (k := 3) (by omega) hL rfl rfl rfl rfl rfl ?_
  refine law_C (as := [.int (sc.getD (i + 1) 0), .int (sc.getD (i + 2) 0), .int (sc.getD (i + 3) 0)]) (st := []) hR (idx := 159) (a := 101) rfl (by decide) rfl (fun _ => rfl) (fun _ => rfl) rfl hc rfl (Nat.le_of_ble_eq_true rfl) hA (fun H1 R1 => ?_)
  refine law_pop rfl rfl ?_
  refine mFin.step (q' := (1330, lawL i, .ref 141 :: [], H1, nc, ns)) (step_fetch (i := (1329, .aload_n 2, 1, 0, 0, 0)) rfl rfl) mmon_rf ?_
  refine law_arg (k := 1) (by omega) hL rfl rfl rfl rfl rfl ?_
  refine law_arg (k := 2) (by omega) hL rfl rfl rfl rfl rfl ?_
  refine law_arg (k := 3) (by omega) hL rfl rfl rfl rfl rfl ?_
  refine law_M (as := [.int (sc.getD (i + 1) 0), .int (sc.getD (i + 2) 0), .int (sc.getD (i + 3) 0)]) (st := []) R1 (idx := 162) (a := 180) rfl (by decide) rfl (fun _ => rfl) (fun _ => rfl) rfl hm rfl (Nat.le_of_ble_eq_true rfl) hB (fun H2 R2 => ?_)
  refine law_pop rfl rfl ?_
  exact law_go rfl (by decide) (k H2 R2)
set_option maxRecDepth 100000 in
theorem law_case_36 {u w : Int32} (hL : sc.length < 2 ^ 31) (hi : i + 6 ≤ sc.length) (hR : LR hC hM HS) (hc : hC[10]? = some (.inr (4, vs))) (hm : hM[10]? = some (.inr (5, ws))) (hA : mEnds sc d 102 (mentry 102 (.ref 10 :: [.int (sc.getD (i + 1) 0), .int (sc.getD (i + 2) 0), .int (sc.getD (i + 3) 0), .int (sc.getD (i + 4) 0)]) hC) (some (.int u), hC', 0, 0)) (hB : mEnds sc d 181 (mentry 181 (.ref 10 :: [.int (sc.getD (i + 1) 0), .int (sc.getD (i + 2) 0), .int (sc.getD (i + 3) 0), .int (sc.getD (i + 4) 0)]) hM) (some (.int w), hM', 0, 0))
    (k : ∀ HS', LR hC' hM' HS' → mFin sc (d + 1) NC NS (1441, lawL i, [], HS', nc, ns)) : mFin sc (d + 1) NC NS (1352, lawL i, [], HS, nc, ns) := by
  refine mFin.step (q' := (1353, lawL i, .ref 10 :: [], HS, nc, ns)) (step_fetch (i := (1352, .aload_n 1, 1, 0, 0, 0)) rfl rfl) mmon_rf ?_
  refine law_arg (k := 1) (by omega) hL rfl rfl rfl rfl rfl ?_
  refine law_arg (k := 2) (by omega) hL rfl rfl rfl rfl rfl ?_
  refine law_arg (k := 3) (by omega) hL rfl rfl rfl rfl rfl ?_
  refine law_arg (k := 4) (by omega) hL rfl rfl rfl rfl rfl ?_
  refine law_C (as := [.int (sc.getD (i + 1) 0), .int (sc.getD (i + 2) 0), .int (sc.getD (i + 3) 0), .int (sc.getD (i + 4) 0)]) (st := []) hR (idx := 163) (a := 102) rfl (by decide) rfl (fun _ => rfl) (fun _ => rfl) rfl hc rfl (Nat.le_of_ble_eq_true rfl) hA (fun H1 R1 => ?_)
  refine law_pop rfl rfl ?_
  refine mFin.step (q' := (1378, lawL i, .ref 141 :: [], H1, nc, ns)) (step_fetch (i := (1377, .aload_n 2, 1, 0, 0, 0)) rfl rfl) mmon_rf ?_
  refine law_arg (k := 1) (by omega) hL rfl rfl rfl rfl rfl ?_
  refine law_arg (k := 2) (by omega) hL rfl rfl rfl rfl rfl ?_
  refine law_arg (k := 3) (by omega) hL rfl rfl rfl rfl rfl ?_
  refine law_arg (k := 4) (by omega) hL rfl rfl rfl rfl rfl ?_
  refine law_M (as := [.int (sc.getD (i + 1) 0), .int (sc.getD (i + 2) 0), .int (sc.getD (i + 3) 0), .int (sc.getD (i + 4) 0)]) (st := []) R1 (idx := 167) (a := 181) rfl (by decide) rfl (fun _ => rfl) (fun _ => rfl) rfl hm rfl (Nat.le_of_ble_eq_true rfl) hB (fun H2 R2 => ?_)
  refine law_pop rfl rfl ?_
  exact law_go rfl (by decide) (k H2 R2)
set_option maxRecDepth 100000 in
theorem law_case_37 {u w : Int32} (hL : sc.length < 2 ^ 31) (hi : i + 6 ≤ sc.length) (hR : LR hC hM HS) (hc : hC[10]? = some (.inr (4, vs))) (hm : hM[10]? = some (.inr (5, ws))) (hA : mEnds sc d 103 (mentry 103 (.ref 10 :: []) hC) (some (.int u), hC', 0, 0)) (hB : mEnds sc d 182 (mentry 182 (.ref 10 :: []) hM) (some (.int w), hM', 0, 0))
    (k : ∀ HS', LR hC' hM' HS' → mFin sc (d + 1) NC NS (1441, lawL i, [], HS', nc, ns)) : mFin sc (d + 1) NC NS (1405, lawL i, [], HS, nc, ns) := by
  refine mFin.step (q' := (1406, lawL i, .ref 10 :: [], HS, nc, ns)) (step_fetch (i := (1405, .aload_n 1, 1, 0, 0, 0)) rfl rfl) mmon_rf ?_
  refine law_C (as := []) (st := []) hR (idx := 168) (a := 103) rfl (by decide) rfl (fun _ => rfl) (fun _ => rfl) rfl hc rfl (Nat.le_of_ble_eq_true rfl) hA (fun H1 R1 => ?_)
  refine law_pop rfl rfl ?_
  refine mFin.step (q' := (1411, lawL i, .ref 141 :: [], H1, nc, ns)) (step_fetch (i := (1410, .aload_n 2, 1, 0, 0, 0)) rfl rfl) mmon_rf ?_
  refine law_M (as := []) (st := []) R1 (idx := 171) (a := 182) rfl (by decide) rfl (fun _ => rfl) (fun _ => rfl) rfl hm rfl (Nat.le_of_ble_eq_true rfl) hB (fun H2 R2 => ?_)
  refine law_pop rfl rfl ?_
  exact law_go rfl (by decide) (k H2 R2)
set_option maxRecDepth 100000 in
theorem law_case_38 {u w : Int32} (hL : sc.length < 2 ^ 31) (hi : i + 6 ≤ sc.length) (hR : LR hC hM HS) (hc : hC[10]? = some (.inr (4, vs))) (hm : hM[10]? = some (.inr (5, ws))) (hA : mEnds sc d 104 (mentry 104 (.ref 10 :: [.int (sc.getD (i + 1) 0)]) hC) (some (.int u), hC', 0, 0)) (hB : mEnds sc d 183 (mentry 183 (.ref 10 :: [.int (sc.getD (i + 1) 0)]) hM) (some (.int w), hM', 0, 0))
    (k : ∀ HS', LR hC' hM' HS' → mFin sc (d + 1) NC NS (1441, lawL i, [], HS', nc, ns)) : mFin sc (d + 1) NC NS (1418, lawL i, [], HS, nc, ns) := by
  refine mFin.step (q' := (1419, lawL i, .ref 10 :: [], HS, nc, ns)) (step_fetch (i := (1418, .aload_n 1, 1, 0, 0, 0)) rfl rfl) mmon_rf ?_
  refine law_arg (k := 1) (by omega) hL rfl rfl rfl rfl rfl ?_
  refine law_C (as := [.int (sc.getD (i + 1) 0)]) (st := []) hR (idx := 172) (a := 104) rfl (by decide) rfl (fun _ => rfl) (fun _ => rfl) rfl hc rfl (Nat.le_of_ble_eq_true rfl) hA (fun H1 R1 => ?_)
  refine law_pop rfl rfl ?_
  refine mFin.step (q' := (1429, lawL i, .ref 141 :: [], H1, nc, ns)) (step_fetch (i := (1428, .aload_n 2, 1, 0, 0, 0)) rfl rfl) mmon_rf ?_
  refine law_arg (k := 1) (by omega) hL rfl rfl rfl rfl rfl ?_
  refine law_M (as := [.int (sc.getD (i + 1) 0)]) (st := []) R1 (idx := 175) (a := 183) rfl (by decide) rfl (fun _ => rfl) (fun _ => rfl) rfl hm rfl (Nat.le_of_ble_eq_true rfl) hB (fun H2 R2 => ?_)
  refine law_pop rfl rfl ?_
  exact law_go rfl (by decide) (k H2 R2)
end LAW
end Q92
section Q93
/-! the law's loop; what the class and the reference do does not hang on the script -/
theorem mexec_sc {sc sc' : List Int32} {y : Nat} (hy : y < 184) {ins : Instr} {a b : Nat} {z : Int} {pc : Nat} {loc : mL} {stk : List Value} {hs : mH} {nc ns : Nat} : mexec sc y ins a b z pc loc stk hs nc ns = mexec sc' y ins a b z pc loc stk hs nc ns := by
  have hb : Nat.beq y 184 = false := by
    cases q : Nat.beq y 184 with
    | false => rfl
    | true => have := beqN q; omega
  cases ins <;> first
    | rfl
    | (simp only [mexec, hb, oB, cond_false])
theorem mrun_sc {sc sc' : List Int32} : ∀ {n d y : Nat} {q : mS} {x : Option Value × mH × Nat × Nat}, y < 184 → mrun sc n d y q = some x → mrun sc' n d y q = some x
  | 0, _, _, _, _, _, h => by cases h
  | n + 1, d, y, q, x, hy, h => by
    have e : mstep sc y q = mstep sc' y q := by
      unfold mstep
      split
      · rfl
      · exact mexec_sc hy
    rcases mrun_inv h with ⟨q', h1, h2, h3⟩ | ⟨v, h1, rfl⟩ | ⟨y', as, q', d', v, hs', c', s', h1, rfl, h3, h4, h5⟩
    · rw [mrun, ← e, h1]
      simp only [h2, cond_true]
      exact mrun_sc hy h3
    · rw [mrun, ← e, h1]
    · obtain ⟨ins, len, a, b, z, hd, hk, hx2⟩ := mstep_inv h1
      have hy' : y' < 184 := (mcall_inv hk hx2).2.1
      rw [mrun, ← e, h1]
      simp only [mrun_sc (sc' := sc') hy' h3]
      have g : (mmon q q' && Nat.ble (margs as).length (mmaxL y')) = true := by rw [h4.1, Nat.ble_eq_true_of_le h4.2]; rfl
      rw [g, cond_true]
      exact mrun_sc hy h5
theorem mEnds.sc {sc' : List Int32} (sc : List Int32) {d y : Nat} {q : mS} {x : Option Value × mH × Nat × Nat} (hy : y < 184) (h : mEnds sc' d y q x) : mEnds sc d y q x := by
  obtain ⟨n, hn⟩ := h
  exact ⟨n, mrun_sc hy hn⟩
theorem lf_1441 : mfetch 184 1441 = some (1441, .iinc 3 6, 3, 0, 0, 0) := by decide +kernel
theorem lf_1444 : mfetch 184 1444 = some (1444, .goto (-1426), 3, 0, 0, 0) := by decide +kernel
theorem lf_1447 : mfetch 184 1447 = some (1447, .iconst 1, 1, 0, 0, 0) := by decide +kernel
theorem lf_1448 : mfetch 184 1448 = some (1448, .ireturn, 1, 0, 0, 0) := by decide +kernel
section LAW
variable {sc : List Int32} {d : Nat} {HS : mH} {nc ns i NC NS : Nat}
theorem i8_6 : (Int8.ofInt 6).toInt32 = nI 6 := by decide +kernel
theorem law_head0 (k : mFin sc d NC NS (24, lawL i, [.int (nI sc.length - nI 6), .int (nI i)], HS, nc, ns)) : mFin sc d NC NS (18, lawL i, [], HS, nc, ns) := by
  refine mFin.steps 4 (q' := (23, lawL i, [.int (Int8.ofInt 6).toInt32, .int (Int32.ofNat sc.length), .int (nI i)], HS, nc, ns)) ?_ ?_
  · simp only [msteps]
    rw [step_fetch (i := (18, .iload_n 3, 1, 0, 0, 0)) rfl rfl]
    simp only [mmon_rf, cond_true]
    rw [step_fetch (i := (19, .aload_n 0, 1, 0, 0, 0)) rfl rfl]
    simp only [mmon_rf, cond_true]
    rw [step_fetch (i := (20, .arraylength, 1, 0, 0, 0)) rfl rfl]
    simp only [mmon_rf, cond_true]
    rw [step_fetch (i := (21, .bipush 6, 2, 0, 0, 0)) rfl rfl]
    simp only [mmon_rf, cond_true]
  · rw [i8_6]
    exact mFin.step (step_fetch (i := (23, .isub, 1, 0, 0, 0)) rfl rfl) mmon_rf k
theorem law_cmp {L i : Nat} (hL : L < 2 ^ 30) (hi : i < 2 ^ 30) : (nI L - nI 6 < nI i) ↔ L < i + 6 := by
  rw [Int32.lt_iff_toInt_lt, pk_sub_toInt hL (by decide), nI_toInt (by omega)]
  omega
theorem law_in (hL : sc.length < 2 ^ 30) (h : i + 6 ≤ sc.length) (k : mFin sc d NC NS (27, lawL i, [], HS, nc, ns)) : mFin sc d NC NS (18, lawL i, [], HS, nc, ns) := by
  refine law_head0 (mFin.step (step_fetch (i := (24, .if_icmp .gt 1423, 3, 0, 0, 0)) rfl ?_) mmon_rf k)
  show (bif mtk .gt (nI i) (nI sc.length - nI 6) then _ else mgo 27 (lawL i) [] HS nc ns) = _
  have e : mtk .gt (nI i) (nI sc.length - nI 6) = false := decide_eq_false (fun q => by rw [law_cmp hL (by omega)] at q; omega)
  rw [e]; rfl
theorem law_out (hL : sc.length < 2 ^ 30) (hi : i < 2 ^ 30) (h : sc.length < i + 6) : mFin sc d nc ns (18, lawL i, [], HS, nc, ns) := by
  refine law_head0 (mFin.step (q' := (1447, lawL i, [], HS, nc, ns)) (step_fetch (i := (24, .if_icmp .gt 1423, 3, 0, 0, 0)) rfl ?_) mmon_rf ?_)
  · show (bif mtk .gt (nI i) (nI sc.length - nI 6) then mjp 24 1423 (lawL i) [] HS nc ns else _) = _
    have e : mtk .gt (nI i) (nI sc.length - nI 6) = true := decide_eq_true ((law_cmp hL hi).mpr h)
    rw [e]; rfl
  · refine mFin.step (q' := (1448, lawL i, [.int 1], HS, nc, ns)) (step_fetch (i := (1447, .iconst 1, 1, 0, 0, 0)) lf_1447 rfl) mmon_rf ?_
    exact ⟨HS, mEnds.ret (q := (1448, lawL i, [.int 1], HS, nc, ns)) (step_fetch (i := (1448, .ireturn, 1, 0, 0, 0)) lf_1448 rfl)⟩
theorem law_inc (k : mFin sc d NC NS (18, lawL (i + 6), [], HS, nc, ns)) : mFin sc d NC NS (1441, lawL i, [], HS, nc, ns) := by
  refine mFin.step (q' := (1444, lawL (i + 6), [], HS, nc, ns)) (step_fetch (i := (1441, .iinc 3 6, 3, 0, 0, 0)) lf_1441 ?_) mmon_rf ?_
  · have e : nI (i + 6) = nI i + Int32.ofInt 6 := by rw [← nI_add]; rfl
    show mgo 1444 [some (.ref 0), some (.ref 10), some (.ref 141), some (.int (nI i + Int32.ofInt 6))] [] HS nc ns = _
    rw [← e]; rfl
  · refine mFin.step (q' := (18, lawL (i + 6), [], HS, nc, ns)) (step_fetch (i := (1444, .goto (-1426), 3, 0, 0, 0)) lf_1444 ?_) mmon_rf k
    show mjp 1444 (-1426) (lawL (i + 6)) [] HS nc ns = _
    exact mjp_eq (by decide)
theorem i8_63 : (Int8.ofInt 63).toInt32 = 63 := by decide +kernel
/-- which call it is -/
theorem law_which (hL : sc.length < 2 ^ 30) (h : i < sc.length) {j : Nat} (e : sc.getD i 0 &&& 63 = nI j) (k : mFin sc d NC NS (33, lawL i, [.int (nI j)], HS, nc, ns)) : mFin sc d NC NS (27, lawL i, [], HS, nc, ns) := by
  refine mFin.step (q' := (28, lawL i, [.ref 0], HS, nc, ns)) (step_fetch (i := (27, .aload_n 0, 1, 0, 0, 0)) rfl rfl) mmon_rf ?_
  refine mFin.step (q' := (29, lawL i, [.int (nI i), .ref 0], HS, nc, ns)) (step_fetch (i := (28, .iload_n 3, 1, 0, 0, 0)) rfl rfl) mmon_rf ?_
  refine law_num (j := i) rfl (midx_of h (by omega)) ?_
  refine mFin.step (q' := (32, lawL i, [.int (Int8.ofInt 63).toInt32, .int (sc.getD i 0)], HS, nc, ns)) (step_fetch (i := (30, .bipush 63, 2, 0, 0, 0)) rfl rfl) mmon_rf ?_
  rw [i8_63]
  refine mFin.step (q' := (33, lawL i, [.int (sc.getD i 0 &&& 63)], HS, nc, ns)) (step_fetch (i := (32, .iand, 1, 0, 0, 0)) rfl rfl) mmon_rf ?_
  rw [e]
  exact k
def lawOffs : Array Int := #[171, 194, 217, 230, 243, 266, 299, 322, 345, 388, 431, 454, 487, 520, 553, 576, 609, 652, 685, 698, 741, 784, 817, 850, 893, 956, 999, 1042, 1065, 1088, 1111, 1144, 1187, 1210, 1233, 1276, 1319, 1372, 1385]
theorem law_sw {j : Nat} {off : Int} {t : Nat} (hj : j < 39) (ho : lawOffs[j]? = some off) (ht : (33 : Int) + off = (t : Int)) (k : mFin sc d NC NS (t, lawL i, [], HS, nc, ns)) : mFin sc d NC NS (33, lawL i, [.int (nI j)], HS, nc, ns) := by
  refine mFin.step (step_fetch (i := (33, .tableswitch 1408 0 38 lawOffs, 171, 0, 0, 0)) rfl ?_) mmon_rf k
  have e : (nI j).toInt = (j : Int) := nI_toInt (by omega)
  show (if (nI j).toInt < 0 ∨ 38 < (nI j).toInt then mjp 33 1408 (lawL i) [] HS nc ns else match lawOffs[((nI j).toInt - 0).toNat]? with
    | some off => mjp 33 off (lawL i) [] HS nc ns
    | none => none) = _
  rw [e, if_neg (by omega), show ((j : Int) - 0).toNat = j by omega, ho]
  exact mjp_eq ht
theorem law_skip {j : Nat} (hj : j < 64) (h : 39 ≤ j) (k : mFin sc d NC NS (1441, lawL i, [], HS, nc, ns)) : mFin sc d NC NS (33, lawL i, [.int (nI j)], HS, nc, ns) := by
  refine mFin.step (step_fetch (i := (33, .tableswitch 1408 0 38 lawOffs, 171, 0, 0, 0)) rfl ?_) mmon_rf k
  have e : (nI j).toInt = (j : Int) := nI_toInt (by omega)
  show (if (nI j).toInt < 0 ∨ 38 < (nI j).toInt then mjp 33 1408 (lawL i) [] HS nc ns else match lawOffs[((nI j).toInt - 0).toNat]? with
    | some off => mjp 33 off (lawL i) [] HS nc ns
    | none => none) = _
  rw [e, if_pos (by omega)]
  exact mjp_eq (by decide)
end LAW
end Q93
section Q94
/-! a run of the law, out of a relation that every call keeps -/
def stepOK_0 (R : sg → sg → Prop) (s t : sg) (x1 : Int32) : Prop := ∃ (u w : Int32) (s' : sg) (t' : sg), C_feed x1 s = some (u, s') ∧ M_feed x1 t = some (w, t') ∧ R s' t'
def stepOK_1 (R : sg → sg → Prop) (s t : sg) (x1 : Int32) : Prop := ∃ (u w : Int32) (s' : sg) (t' : sg), C_end x1 s = some (u, s') ∧ M_end x1 t = some (w, t') ∧ R s' t'
def stepOK_2 (R : sg → sg → Prop) (s t : sg) : Prop := ∃ (u w : Int32) (s' : sg) (t' : sg), C_text s = some (u, s') ∧ M_text t = some (w, t') ∧ R s' t'
def stepOK_3 (R : sg → sg → Prop) (s t : sg) : Prop := ∃ (u w : Int32), C_fault s = some u ∧ M_fault t = some w ∧ R s t
def stepOK_4 (R : sg → sg → Prop) (s t : sg) (x1 : Int32) : Prop := ∃ (u w : Int32), C_rule x1 s = some u ∧ M_rule x1 t = some w ∧ R s t
def stepOK_5 (R : sg → sg → Prop) (s t : sg) (x1 : Int32) (x2 : Int32) : Prop := ∃ (u w : Int32), C_room x1 x2 s = some u ∧ M_room x1 x2 t = some w ∧ R s t
def stepOK_6 (R : sg → sg → Prop) (s t : sg) (x1 : Int32) : Prop := ∃ (u w : Int32), C_wall x1 s = some u ∧ M_wall x1 t = some w ∧ R s t
def stepOK_7 (R : sg → sg → Prop) (s t : sg) (x1 : Int32) : Prop := ∃ (u : Int32), C_outside x1 s = some u ∧ M_outside x1 t = some u ∧ R s t
def stepOK_8 (R : sg → sg → Prop) (s t : sg) (x1 : Int32) (x2 : Int32) (x3 : Int32) : Prop := ∃ (u w : Int32) (s' : sg) (t' : sg), C_alter x1 x2 x3 s = some (u, s') ∧ M_alter x1 x2 x3 t = some (w, t') ∧ R s' t'
def stepOK_9 (R : sg → sg → Prop) (s t : sg) (x1 : Int32) (x2 : Int32) (x3 : Int32) : Prop := ∃ (u w : Int32) (s' : sg) (t' : sg), C_fit x1 x2 x3 s = some (u, s') ∧ M_fit x1 x2 x3 t = some (w, t') ∧ R s' t'
def stepOK_10 (R : sg → sg → Prop) (s t : sg) (x1 : Int32) : Prop := ∃ (u w : Int32) (s' : sg) (t' : sg), C_strip x1 s = some (u, s') ∧ M_strip x1 t = some (w, t') ∧ R s' t'
def stepOK_11 (R : sg → sg → Prop) (s t : sg) (x1 : Int32) (x2 : Int32) : Prop := ∃ (u w : Int32) (s' : sg) (t' : sg), C_mark x1 x2 s = some (u, s') ∧ M_mark x1 x2 t = some (w, t') ∧ R s' t'
def stepOK_12 (R : sg → sg → Prop) (s t : sg) (x1 : Int32) (x2 : Int32) : Prop := ∃ (u w : Int32) (s' : sg) (t' : sg), C_lag x1 x2 s = some (u, s') ∧ M_lag x1 x2 t = some (w, t') ∧ R s' t'
def stepOK_13 (R : sg → sg → Prop) (s t : sg) (x1 : Int32) (x2 : Int32) : Prop := ∃ (u w : Int32) (s' : sg) (t' : sg), C_sky x1 x2 s = some (u, s') ∧ M_sky x1 x2 t = some (w, t') ∧ R s' t'
def stepOK_14 (R : sg → sg → Prop) (s t : sg) (x1 : Int32) : Prop := ∃ (u w : Int32) (s' : sg) (t' : sg), C_hours x1 s = some (u, s') ∧ M_hours x1 t = some (w, t') ∧ R s' t'
def stepOK_15 (R : sg → sg → Prop) (s t : sg) (x1 : Int32) (x2 : Int32) : Prop := ∃ (u w : Int32) (s' : sg) (t' : sg), C_runs x1 x2 s = some (u, s') ∧ M_runs x1 x2 t = some (w, t') ∧ R s' t'
def stepOK_16 (R : sg → sg → Prop) (s t : sg) (x1 : Int32) (x2 : Int32) (x3 : Int32) : Prop := ∃ (u w : Int32) (s' : sg) (t' : sg), C_ahead x1 x2 x3 s = some (u, s') ∧ M_ahead x1 x2 x3 t = some (w, t') ∧ R s' t'
def stepOK_17 (R : sg → sg → Prop) (s t : sg) (x1 : Int32) (x2 : Int32) : Prop := ∃ (u w : Int32) (s' : sg) (t' : sg), C_cold x1 x2 s = some (u, s') ∧ M_cold x1 x2 t = some (w, t') ∧ R s' t'
def stepOK_18 (R : sg → sg → Prop) (s t : sg) : Prop := ∃ (u w : Int32) (s' : sg) (t' : sg), C_again s = some (u, s') ∧ M_again t = some (w, t') ∧ R s' t'
def stepOK_19 (R : sg → sg → Prop) (s t : sg) (x1 : Int32) (x2 : Int32) (x3 : Int32) : Prop := ∃ (u w : Int32) (s' : sg) (t' : sg), C_need x1 x2 x3 s = some (u, s') ∧ M_need x1 x2 x3 t = some (w, t') ∧ R s' t'
def stepOK_20 (R : sg → sg → Prop) (s t : sg) (x1 : Int32) (x2 : Int32) (x3 : Int32) : Prop := ∃ (u w : Int32) (s' : sg) (t' : sg), C_kind x1 x2 x3 s = some (u, s') ∧ M_kind x1 x2 x3 t = some (w, t') ∧ R s' t'
def stepOK_21 (R : sg → sg → Prop) (s t : sg) (x1 : Int32) (x2 : Int32) : Prop := ∃ (u w : Int32) (s' : sg) (t' : sg), C_swap x1 x2 s = some (u, s') ∧ M_swap x1 x2 t = some (w, t') ∧ R s' t'
def stepOK_22 (R : sg → sg → Prop) (s t : sg) (x1 : Int32) (x2 : Int32) : Prop := ∃ (u w : Int32) (s' : sg) (t' : sg), C_seal x1 x2 s = some (u, s') ∧ M_seal x1 x2 t = some (w, t') ∧ R s' t'
def stepOK_23 (R : sg → sg → Prop) (s t : sg) (x1 : Int32) (x2 : Int32) (x3 : Int32) : Prop := ∃ (u w : Int32) (s' : sg) (t' : sg), C_spare x1 x2 x3 s = some (u, s') ∧ M_spare x1 x2 x3 t = some (w, t') ∧ R s' t'
def stepOK_24 (R : sg → sg → Prop) (s t : sg) (x1 : Int32) (x2 : Int32) (x3 : Int32) (x4 : Int32) (x5 : Int32) : Prop := ∃ (u w : Int64) (s' : sg) (t' : sg), C_luck x1 x2 x3 x4 x5 s = some (u, s') ∧ M_luck x1 x2 x3 x4 x5 t = some (w, t') ∧ R s' t'
def stepOK_25 (R : sg → sg → Prop) (s t : sg) (x1 : Int32) (x2 : Int32) (x3 : Int32) : Prop := ∃ (u w : Int64) (s' : sg) (t' : sg), C_mean x1 x2 x3 s = some (u, s') ∧ M_mean x1 x2 x3 t = some (w, t') ∧ R s' t'
def stepOK_26 (R : sg → sg → Prop) (s t : sg) (x1 : Int32) (x2 : Int32) (x3 : Int32) : Prop := ∃ (u w : Int32) (s' : sg) (t' : sg), C_see x1 x2 x3 s = some (u, s') ∧ M_see x1 x2 x3 t = some (w, t') ∧ R s' t'
def stepOK_27 (R : sg → sg → Prop) (s t : sg) (x1 : Int32) : Prop := ∃ (u w : Int32) (s' : sg) (t' : sg), C_forget x1 s = some (u, s') ∧ M_forget x1 t = some (w, t') ∧ R s' t'
def stepOK_28 (R : sg → sg → Prop) (s t : sg) (x1 : Int32) : Prop := ∃ (u w : Int32) (s' : sg) (t' : sg), C_kinds x1 s = some (u, s') ∧ M_kinds x1 t = some (w, t') ∧ R s' t'
def stepOK_29 (R : sg → sg → Prop) (s t : sg) (x1 : Int32) : Prop := ∃ (u w : Int32) (s' : sg) (t' : sg), C_lets x1 s = some (u, s') ∧ M_lets x1 t = some (w, t') ∧ R s' t'
def stepOK_30 (R : sg → sg → Prop) (s t : sg) (x1 : Int32) (x2 : Int32) : Prop := ∃ (u w : Int32) (s' : sg) (t' : sg), C_ask x1 x2 s = some (u, s') ∧ M_ask x1 x2 t = some (w, t') ∧ R s' t'
def stepOK_31 (R : sg → sg → Prop) (s t : sg) (x1 : Int32) (x2 : Int32) (x3 : Int32) : Prop := ∃ (u w : Int32) (s' : sg) (t' : sg), C_drift x1 x2 x3 s = some (u, s') ∧ M_drift x1 x2 x3 t = some (w, t') ∧ R s' t'
def stepOK_32 (R : sg → sg → Prop) (s t : sg) (x1 : Int32) : Prop := ∃ (u w : Int32) (s' : sg) (t' : sg), C_keep x1 s = some (u, s') ∧ M_keep x1 t = some (w, t') ∧ R s' t'
def stepOK_33 (R : sg → sg → Prop) (s t : sg) (x1 : Int32) : Prop := ∃ (u w : Int32) (s' : sg) (t' : sg), C_back x1 s = some (u, s') ∧ M_back x1 t = some (w, t') ∧ R s' t'
def stepOK_34 (R : sg → sg → Prop) (s t : sg) (x1 : Int32) (x2 : Int32) (x3 : Int32) : Prop := ∃ (u w : Int32) (s' : sg) (t' : sg), C_sheet x1 x2 x3 s = some (u, s') ∧ M_sheet x1 x2 x3 t = some (w, t') ∧ R s' t'
def stepOK_35 (R : sg → sg → Prop) (s t : sg) (x1 : Int32) (x2 : Int32) (x3 : Int32) : Prop := ∃ (u w : Int32) (s' : sg) (t' : sg), C_lay x1 x2 x3 s = some (u, s') ∧ M_lay x1 x2 x3 t = some (w, t') ∧ R s' t'
def stepOK_36 (R : sg → sg → Prop) (s t : sg) (x1 : Int32) (x2 : Int32) (x3 : Int32) (x4 : Int32) : Prop := ∃ (u w : Int32) (s' : sg) (t' : sg), C_read x1 x2 x3 x4 s = some (u, s') ∧ M_read x1 x2 x3 x4 t = some (w, t') ∧ R s' t'
def stepOK_37 (R : sg → sg → Prop) (s t : sg) : Prop := ∃ (u w : Int32), C_torn s = some u ∧ M_torn t = some w ∧ R s t
def stepOK_38 (R : sg → sg → Prop) (s t : sg) (x1 : Int32) : Prop := ∃ (u w : Int32), C_count x1 s = some u ∧ M_count x1 t = some w ∧ R s t
def stepsOK (R : sg → sg → Prop) : Prop := ∀ (s t : sg), R s t → ∀ (x1 x2 x3 x4 x5 : Int32), stepOK_0 R s t x1 ∧ stepOK_1 R s t x1 ∧ stepOK_2 R s t ∧ stepOK_3 R s t ∧ stepOK_4 R s t x1 ∧ stepOK_5 R s t x1 x2 ∧ stepOK_6 R s t x1 ∧ stepOK_7 R s t x1 ∧ stepOK_8 R s t x1 x2 x3 ∧ stepOK_9 R s t x1 x2 x3 ∧ stepOK_10 R s t x1 ∧ stepOK_11 R s t x1 x2 ∧ stepOK_12 R s t x1 x2 ∧ stepOK_13 R s t x1 x2 ∧ stepOK_14 R s t x1 ∧ stepOK_15 R s t x1 x2 ∧ stepOK_16 R s t x1 x2 x3 ∧ stepOK_17 R s t x1 x2 ∧ stepOK_18 R s t ∧ stepOK_19 R s t x1 x2 x3 ∧ stepOK_20 R s t x1 x2 x3 ∧ stepOK_21 R s t x1 x2 ∧ stepOK_22 R s t x1 x2 ∧ stepOK_23 R s t x1 x2 x3 ∧ stepOK_24 R s t x1 x2 x3 x4 x5 ∧ stepOK_25 R s t x1 x2 x3 ∧ stepOK_26 R s t x1 x2 x3 ∧ stepOK_27 R s t x1 ∧ stepOK_28 R s t x1 ∧ stepOK_29 R s t x1 ∧ stepOK_30 R s t x1 x2 ∧ stepOK_31 R s t x1 x2 x3 ∧ stepOK_32 R s t x1 ∧ stepOK_33 R s t x1 ∧ stepOK_34 R s t x1 x2 x3 ∧ stepOK_35 R s t x1 x2 x3 ∧ stepOK_36 R s t x1 x2 x3 x4 ∧ stepOK_37 R s t ∧ stepOK_38 R s t x1
theorem rE_sC (x : mE) : rE sC x = x := by
  obtain a | ⟨c, vs⟩ := x
  · rfl
  · show Sum.inr (c, vs.map (cV sC)) = _
    rw [map_sC]
theorem hp_len (sh : List sD) (s : sg) : (hp sh s).length = sh.length := by rw [hp, List.length_mapIdx]
theorem LR0 : LR (hp shC s0) (hp shM t0) (hp shC s0 ++ hMt) := by
  have l1 : (hp shC s0).length = 141 := hp_len _ _
  have l2 : (hp shM t0).length = 23 := hp_len _ _
  have d0 : ∀ i, i < 10 → (hp shM t0)[i]? = some (.inl (0, [])) ∧ (hp shC s0)[i]? = some (.inl (0, [])) := fun i hi => by
    match i, hi with
    | 0, _ => exact ⟨(hp_get rfl).trans rfl, (hp_get rfl).trans rfl⟩
    | 1, _ => exact ⟨(hp_get rfl).trans rfl, (hp_get rfl).trans rfl⟩
    | 2, _ => exact ⟨(hp_get rfl).trans rfl, (hp_get rfl).trans rfl⟩
    | 3, _ => exact ⟨(hp_get rfl).trans rfl, (hp_get rfl).trans rfl⟩
    | 4, _ => exact ⟨(hp_get rfl).trans rfl, (hp_get rfl).trans rfl⟩
    | 5, _ => exact ⟨(hp_get rfl).trans rfl, (hp_get rfl).trans rfl⟩
    | 6, _ => exact ⟨(hp_get rfl).trans rfl, (hp_get rfl).trans rfl⟩
    | 7, _ => exact ⟨(hp_get rfl).trans rfl, (hp_get rfl).trans rfl⟩
    | 8, _ => exact ⟨(hp_get rfl).trans rfl, (hp_get rfl).trans rfl⟩
    | 9, _ => exact ⟨(hp_get rfl).trans rfl, (hp_get rfl).trans rfl⟩
  have e1 : ∀ i, i < 10 → sM i = i := fun i hi => if_pos hi
  have e2 : ∀ i, 10 ≤ i → sM i = i + 131 := fun i hi => if_neg (by omega)
  refine ⟨⟨fun i x h => ?_, fun i j _ _ h => h, fun i h => h, fun i _ => rfl⟩, ⟨fun i x h => ?_, fun i j _ _ h => ?_, fun i h => ?_, fun i h => e1 i h⟩, l1, l2⟩
  · have hi := (List.getElem?_eq_some_iff.mp h).1
    rw [rE_sC]
    show (hp shC s0 ++ hMt)[i]? = some x
    rw [List.getElem?_append_left hi]; exact h
  · by_cases q : i < 10
    · rw [e1 i q, List.getElem?_append_left (by rw [l1]; omega), (d0 i q).2]
      rw [(d0 i q).1] at h
      cases h; rfl
    · rw [e2 i (by omega), List.getElem?_append_right (by rw [l1]; omega), l1, show i + 131 - 141 = i - 10 by omega, hMt, List.getElem?_map, List.getElem?_drop, show 10 + (i - 10) = i by omega, h]
      rfl
  · by_cases q : i < 10
    · by_cases q2 : j < 10
      · rw [e1 i q, e1 j q2] at h; exact h
      · rw [e1 i q, e2 j (by omega)] at h; omega
    · by_cases q2 : j < 10
      · rw [e2 i (by omega), e1 j q2] at h; omega
      · rw [e2 i (by omega), e2 j (by omega)] at h; omega
  · have h : 10 ≤ i := h
    rw [e2 i h]; show 10 ≤ i + 131; omega
theorem hpC10 (s : sg) : (hp shC s)[10]? = some (he s 10 (.inr (4, [some 11, some 19, some 20, some 21, some 22, some 23, some 27, none]))) := hp_get rfl
theorem hpM10 (s : sg) : (hp shM s)[10]? = some (he s 10 (.inr (5, [some 11, none, some 12, none, none, none, none, some 13, none, none, none, none, none, none, none, none, some 14, some 15, some 16, none, none, some 17, none, some 18, some 19, some 20, some 21, some 22, none]))) := hp_get rfl

section DO
variable {R : sg → sg → Prop} {sc : List Int32} {s t : sg} {HS : mH} {nc ns i : Nat}
set_option maxRecDepth 100000 in
theorem law_do_0 (hL31 : sc.length < 2 ^ 31) (hi : i + 6 ≤ sc.length) (hLR : LR (hp shC s) (hp shM t) HS) (k : stepOK_0 R s t (sc.getD (i + 1) 0)) (fin : ∀ (s' t' : sg) (HS' : mH), R s' t' → LR (hp shC s') (hp shM t') HS' → mFin sc 31 nc ns (1441, lawL i, [], HS', nc, ns)) : mFin sc 31 nc ns (33, lawL i, [.int (nI 0)], HS, nc, ns) := by
  obtain ⟨u, w, s', t', A, B, hR'⟩ := k
  have hA := ((ok_C_feed A).le (by decide : 1 ≤ 30)).sc sc (by decide)
  have hB := ((ok_M_feed B).le (by decide : 1 ≤ 30)).sc sc (by decide)
  exact law_sw (by decide) rfl (t := 204) (by decide) (law_case_0 hL31 hi hLR (hpC10 s) (hpM10 t) hA hB (fun HS' hLR' => fin s' t' HS' hR' hLR'))
set_option maxRecDepth 100000 in
theorem law_do_1 (hL31 : sc.length < 2 ^ 31) (hi : i + 6 ≤ sc.length) (hLR : LR (hp shC s) (hp shM t) HS) (k : stepOK_1 R s t (sc.getD (i + 1) 0)) (fin : ∀ (s' t' : sg) (HS' : mH), R s' t' → LR (hp shC s') (hp shM t') HS' → mFin sc 31 nc ns (1441, lawL i, [], HS', nc, ns)) : mFin sc 31 nc ns (33, lawL i, [.int (nI 1)], HS, nc, ns) := by
  obtain ⟨u, w, s', t', A, B, hR'⟩ := k
  have hA := ((ok_C_end A).le (by decide : 1 ≤ 30)).sc sc (by decide)
  have hB := ((ok_M_end B).le (by decide : 1 ≤ 30)).sc sc (by decide)
  exact law_sw (by decide) rfl (t := 227) (by decide) (law_case_1 hL31 hi hLR (hpC10 s) (hpM10 t) hA hB (fun HS' hLR' => fin s' t' HS' hR' hLR'))
set_option maxRecDepth 100000 in
theorem law_do_2 (hL31 : sc.length < 2 ^ 31) (hi : i + 6 ≤ sc.length) (hLR : LR (hp shC s) (hp shM t) HS) (k : stepOK_2 R s t) (fin : ∀ (s' t' : sg) (HS' : mH), R s' t' → LR (hp shC s') (hp shM t') HS' → mFin sc 31 nc ns (1441, lawL i, [], HS', nc, ns)) : mFin sc 31 nc ns (33, lawL i, [.int (nI 2)], HS, nc, ns) := by
  obtain ⟨u, w, s', t', A, B, hR'⟩ := k
  have hA := ((ok_C_text A).le (by decide : 6 ≤ 30)).sc sc (by decide)
  have hB := ((ok_M_text B).le (by decide : 6 ≤ 30)).sc sc (by decide)
  exact law_sw (by decide) rfl (t := 250) (by decide) (law_case_2 hL31 hi hLR (hpC10 s) (hpM10 t) hA hB (fun HS' hLR' => fin s' t' HS' hR' hLR'))
set_option maxRecDepth 100000 in
theorem law_do_3 (hL31 : sc.length < 2 ^ 31) (hi : i + 6 ≤ sc.length) (hLR : LR (hp shC s) (hp shM t) HS) (k : stepOK_3 R s t) (fin : ∀ (s' t' : sg) (HS' : mH), R s' t' → LR (hp shC s') (hp shM t') HS' → mFin sc 31 nc ns (1441, lawL i, [], HS', nc, ns)) : mFin sc 31 nc ns (33, lawL i, [.int (nI 3)], HS, nc, ns) := by
  obtain ⟨u, w, A, B, hR'⟩ := k
  have hA := ((ok_C_fault A).le (by decide : 0 ≤ 30)).sc sc (by decide)
  have hB := ((ok_M_fault B).le (by decide : 0 ≤ 30)).sc sc (by decide)
  exact law_sw (by decide) rfl (t := 263) (by decide) (law_case_3 hL31 hi hLR (hpC10 s) (hpM10 t) hA hB (fun HS' hLR' => fin s t HS' hR' hLR'))
set_option maxRecDepth 100000 in
theorem law_do_4 (hL31 : sc.length < 2 ^ 31) (hi : i + 6 ≤ sc.length) (hLR : LR (hp shC s) (hp shM t) HS) (k : stepOK_4 R s t (sc.getD (i + 1) 0)) (fin : ∀ (s' t' : sg) (HS' : mH), R s' t' → LR (hp shC s') (hp shM t') HS' → mFin sc 31 nc ns (1441, lawL i, [], HS', nc, ns)) : mFin sc 31 nc ns (33, lawL i, [.int (nI 4)], HS, nc, ns) := by
  obtain ⟨u, w, A, B, hR'⟩ := k
  have hA := ((ok_C_rule A).le (by decide : 2 ≤ 30)).sc sc (by decide)
  have hB := ((ok_M_rule B).le (by decide : 1 ≤ 30)).sc sc (by decide)
  exact law_sw (by decide) rfl (t := 276) (by decide) (law_case_4 hL31 hi hLR (hpC10 s) (hpM10 t) hA hB (fun HS' hLR' => fin s t HS' hR' hLR'))
set_option maxRecDepth 100000 in
theorem law_do_5 (hL31 : sc.length < 2 ^ 31) (hi : i + 6 ≤ sc.length) (hLR : LR (hp shC s) (hp shM t) HS) (k : stepOK_5 R s t (sc.getD (i + 1) 0) (sc.getD (i + 2) 0)) (fin : ∀ (s' t' : sg) (HS' : mH), R s' t' → LR (hp shC s') (hp shM t') HS' → mFin sc 31 nc ns (1441, lawL i, [], HS', nc, ns)) : mFin sc 31 nc ns (33, lawL i, [.int (nI 5)], HS, nc, ns) := by
  obtain ⟨u, w, A, B, hR'⟩ := k
  have hA := ((ok_C_room A).le (by decide : 2 ≤ 30)).sc sc (by decide)
  have hB := ((ok_M_room B).le (by decide : 2 ≤ 30)).sc sc (by decide)
  exact law_sw (by decide) rfl (t := 299) (by decide) (law_case_5 hL31 hi hLR (hpC10 s) (hpM10 t) hA hB (fun HS' hLR' => fin s t HS' hR' hLR'))
set_option maxRecDepth 100000 in
theorem law_do_6 (hL31 : sc.length < 2 ^ 31) (hi : i + 6 ≤ sc.length) (hLR : LR (hp shC s) (hp shM t) HS) (k : stepOK_6 R s t (sc.getD (i + 1) 0)) (fin : ∀ (s' t' : sg) (HS' : mH), R s' t' → LR (hp shC s') (hp shM t') HS' → mFin sc 31 nc ns (1441, lawL i, [], HS', nc, ns)) : mFin sc 31 nc ns (33, lawL i, [.int (nI 6)], HS, nc, ns) := by
  obtain ⟨u, w, A, B, hR'⟩ := k
  have hA := ((ok_C_wall A).le (by decide : 1 ≤ 30)).sc sc (by decide)
  have hB := ((ok_M_wall B).le (by decide : 2 ≤ 30)).sc sc (by decide)
  exact law_sw (by decide) rfl (t := 332) (by decide) (law_case_6 hL31 hi hLR (hpC10 s) (hpM10 t) hA hB (fun HS' hLR' => fin s t HS' hR' hLR'))
set_option maxRecDepth 100000 in
theorem law_do_7 (hL31 : sc.length < 2 ^ 31) (hi : i + 6 ≤ sc.length) (hLR : LR (hp shC s) (hp shM t) HS) (k : stepOK_7 R s t (sc.getD (i + 1) 0)) (fin : ∀ (s' t' : sg) (HS' : mH), R s' t' → LR (hp shC s') (hp shM t') HS' → mFin sc 31 nc ns (1441, lawL i, [], HS', nc, ns)) : mFin sc 31 nc ns (33, lawL i, [.int (nI 7)], HS, nc, ns) := by
  obtain ⟨u, A, B, hR'⟩ := k
  have hA := ((ok_C_outside A).le (by decide : 1 ≤ 30)).sc sc (by decide)
  have hB := ((ok_M_outside B).le (by decide : 1 ≤ 30)).sc sc (by decide)
  exact law_sw (by decide) rfl (t := 355) (by decide) (law_case_7 hL31 hi hLR (hpC10 s) (hpM10 t) hA hB (fun HS' hLR' => fin s t HS' hR' hLR'))
set_option maxRecDepth 100000 in
theorem law_do_8 (hL31 : sc.length < 2 ^ 31) (hi : i + 6 ≤ sc.length) (hLR : LR (hp shC s) (hp shM t) HS) (k : stepOK_8 R s t (sc.getD (i + 1) 0) (sc.getD (i + 2) 0) (sc.getD (i + 3) 0)) (fin : ∀ (s' t' : sg) (HS' : mH), R s' t' → LR (hp shC s') (hp shM t') HS' → mFin sc 31 nc ns (1441, lawL i, [], HS', nc, ns)) : mFin sc 31 nc ns (33, lawL i, [.int (nI 8)], HS, nc, ns) := by
  obtain ⟨u, w, s', t', A, B, hR'⟩ := k
  have hA := ((ok_C_alter A).le (by decide : 1 ≤ 30)).sc sc (by decide)
  have hB := ((ok_M_alter B).le (by decide : 2 ≤ 30)).sc sc (by decide)
  exact law_sw (by decide) rfl (t := 378) (by decide) (law_case_8 hL31 hi hLR (hpC10 s) (hpM10 t) hA hB (fun HS' hLR' => fin s' t' HS' hR' hLR'))
set_option maxRecDepth 100000 in
theorem law_do_9 (hL31 : sc.length < 2 ^ 31) (hi : i + 6 ≤ sc.length) (hLR : LR (hp shC s) (hp shM t) HS) (k : stepOK_9 R s t (sc.getD (i + 1) 0) (sc.getD (i + 2) 0) (sc.getD (i + 3) 0)) (fin : ∀ (s' t' : sg) (HS' : mH), R s' t' → LR (hp shC s') (hp shM t') HS' → mFin sc 31 nc ns (1441, lawL i, [], HS', nc, ns)) : mFin sc 31 nc ns (33, lawL i, [.int (nI 9)], HS, nc, ns) := by
  obtain ⟨u, w, s', t', A, B, hR'⟩ := k
  have hA := ((ok_C_fit A).le (by decide : 1 ≤ 30)).sc sc (by decide)
  have hB := ((ok_M_fit B).le (by decide : 2 ≤ 30)).sc sc (by decide)
  exact law_sw (by decide) rfl (t := 421) (by decide) (law_case_9 hL31 hi hLR (hpC10 s) (hpM10 t) hA hB (fun HS' hLR' => fin s' t' HS' hR' hLR'))
set_option maxRecDepth 100000 in
theorem law_do_10 (hL31 : sc.length < 2 ^ 31) (hi : i + 6 ≤ sc.length) (hLR : LR (hp shC s) (hp shM t) HS) (k : stepOK_10 R s t (sc.getD (i + 1) 0)) (fin : ∀ (s' t' : sg) (HS' : mH), R s' t' → LR (hp shC s') (hp shM t') HS' → mFin sc 31 nc ns (1441, lawL i, [], HS', nc, ns)) : mFin sc 31 nc ns (33, lawL i, [.int (nI 10)], HS, nc, ns) := by
  obtain ⟨u, w, s', t', A, B, hR'⟩ := k
  have hA := ((ok_C_strip A).le (by decide : 1 ≤ 30)).sc sc (by decide)
  have hB := ((ok_M_strip B).le (by decide : 2 ≤ 30)).sc sc (by decide)
  exact law_sw (by decide) rfl (t := 464) (by decide) (law_case_10 hL31 hi hLR (hpC10 s) (hpM10 t) hA hB (fun HS' hLR' => fin s' t' HS' hR' hLR'))
set_option maxRecDepth 100000 in
theorem law_do_11 (hL31 : sc.length < 2 ^ 31) (hi : i + 6 ≤ sc.length) (hLR : LR (hp shC s) (hp shM t) HS) (k : stepOK_11 R s t (sc.getD (i + 1) 0) (sc.getD (i + 2) 0)) (fin : ∀ (s' t' : sg) (HS' : mH), R s' t' → LR (hp shC s') (hp shM t') HS' → mFin sc 31 nc ns (1441, lawL i, [], HS', nc, ns)) : mFin sc 31 nc ns (33, lawL i, [.int (nI 11)], HS, nc, ns) := by
  obtain ⟨u, w, s', t', A, B, hR'⟩ := k
  have hA := ((ok_C_mark A).le (by decide : 2 ≤ 30)).sc sc (by decide)
  have hB := ((ok_M_mark B).le (by decide : 3 ≤ 30)).sc sc (by decide)
  exact law_sw (by decide) rfl (t := 487) (by decide) (law_case_11 hL31 hi hLR (hpC10 s) (hpM10 t) hA hB (fun HS' hLR' => fin s' t' HS' hR' hLR'))
set_option maxRecDepth 100000 in
theorem law_do_12 (hL31 : sc.length < 2 ^ 31) (hi : i + 6 ≤ sc.length) (hLR : LR (hp shC s) (hp shM t) HS) (k : stepOK_12 R s t (sc.getD (i + 1) 0) (sc.getD (i + 2) 0)) (fin : ∀ (s' t' : sg) (HS' : mH), R s' t' → LR (hp shC s') (hp shM t') HS' → mFin sc 31 nc ns (1441, lawL i, [], HS', nc, ns)) : mFin sc 31 nc ns (33, lawL i, [.int (nI 12)], HS, nc, ns) := by
  obtain ⟨u, w, s', t', A, B, hR'⟩ := k
  have hA := ((ok_C_lag A).le (by decide : 1 ≤ 30)).sc sc (by decide)
  have hB := ((ok_M_lag B).le (by decide : 2 ≤ 30)).sc sc (by decide)
  exact law_sw (by decide) rfl (t := 520) (by decide) (law_case_12 hL31 hi hLR (hpC10 s) (hpM10 t) hA hB (fun HS' hLR' => fin s' t' HS' hR' hLR'))
set_option maxRecDepth 100000 in
theorem law_do_13 (hL31 : sc.length < 2 ^ 31) (hi : i + 6 ≤ sc.length) (hLR : LR (hp shC s) (hp shM t) HS) (k : stepOK_13 R s t (sc.getD (i + 1) 0) (sc.getD (i + 2) 0)) (fin : ∀ (s' t' : sg) (HS' : mH), R s' t' → LR (hp shC s') (hp shM t') HS' → mFin sc 31 nc ns (1441, lawL i, [], HS', nc, ns)) : mFin sc 31 nc ns (33, lawL i, [.int (nI 13)], HS, nc, ns) := by
  obtain ⟨u, w, s', t', A, B, hR'⟩ := k
  have hA := ((ok_C_sky A).le (by decide : 1 ≤ 30)).sc sc (by decide)
  have hB := ((ok_M_sky B).le (by decide : 1 ≤ 30)).sc sc (by decide)
  exact law_sw (by decide) rfl (t := 553) (by decide) (law_case_13 hL31 hi hLR (hpC10 s) (hpM10 t) hA hB (fun HS' hLR' => fin s' t' HS' hR' hLR'))
set_option maxRecDepth 100000 in
theorem law_do_14 (hL31 : sc.length < 2 ^ 31) (hi : i + 6 ≤ sc.length) (hLR : LR (hp shC s) (hp shM t) HS) (k : stepOK_14 R s t (sc.getD (i + 1) 0)) (fin : ∀ (s' t' : sg) (HS' : mH), R s' t' → LR (hp shC s') (hp shM t') HS' → mFin sc 31 nc ns (1441, lawL i, [], HS', nc, ns)) : mFin sc 31 nc ns (33, lawL i, [.int (nI 14)], HS, nc, ns) := by
  obtain ⟨u, w, s', t', A, B, hR'⟩ := k
  have hA := ((ok_C_hours A).le (by decide : 5 ≤ 30)).sc sc (by decide)
  have hB := ((ok_M_hours B).le (by decide : 4 ≤ 30)).sc sc (by decide)
  exact law_sw (by decide) rfl (t := 586) (by decide) (law_case_14 hL31 hi hLR (hpC10 s) (hpM10 t) hA hB (fun HS' hLR' => fin s' t' HS' hR' hLR'))
set_option maxRecDepth 100000 in
theorem law_do_15 (hL31 : sc.length < 2 ^ 31) (hi : i + 6 ≤ sc.length) (hLR : LR (hp shC s) (hp shM t) HS) (k : stepOK_15 R s t (sc.getD (i + 1) 0) (sc.getD (i + 2) 0)) (fin : ∀ (s' t' : sg) (HS' : mH), R s' t' → LR (hp shC s') (hp shM t') HS' → mFin sc 31 nc ns (1441, lawL i, [], HS', nc, ns)) : mFin sc 31 nc ns (33, lawL i, [.int (nI 15)], HS, nc, ns) := by
  obtain ⟨u, w, s', t', A, B, hR'⟩ := k
  have hA := ((ok_C_runs A).le (by decide : 5 ≤ 30)).sc sc (by decide)
  have hB := ((ok_M_runs B).le (by decide : 5 ≤ 30)).sc sc (by decide)
  exact law_sw (by decide) rfl (t := 609) (by decide) (law_case_15 hL31 hi hLR (hpC10 s) (hpM10 t) hA hB (fun HS' hLR' => fin s' t' HS' hR' hLR'))
set_option maxRecDepth 100000 in
theorem law_do_16 (hL31 : sc.length < 2 ^ 31) (hi : i + 6 ≤ sc.length) (hLR : LR (hp shC s) (hp shM t) HS) (k : stepOK_16 R s t (sc.getD (i + 1) 0) (sc.getD (i + 2) 0) (sc.getD (i + 3) 0)) (fin : ∀ (s' t' : sg) (HS' : mH), R s' t' → LR (hp shC s') (hp shM t') HS' → mFin sc 31 nc ns (1441, lawL i, [], HS', nc, ns)) : mFin sc 31 nc ns (33, lawL i, [.int (nI 16)], HS, nc, ns) := by
  obtain ⟨u, w, s', t', A, B, hR'⟩ := k
  have hA := ((ok_C_ahead A).le (by decide : 5 ≤ 30)).sc sc (by decide)
  have hB := ((ok_M_ahead B).le (by decide : 5 ≤ 30)).sc sc (by decide)
  exact law_sw (by decide) rfl (t := 642) (by decide) (law_case_16 hL31 hi hLR (hpC10 s) (hpM10 t) hA hB (fun HS' hLR' => fin s' t' HS' hR' hLR'))
set_option maxRecDepth 100000 in
theorem law_do_17 (hL31 : sc.length < 2 ^ 31) (hi : i + 6 ≤ sc.length) (hLR : LR (hp shC s) (hp shM t) HS) (k : stepOK_17 R s t (sc.getD (i + 1) 0) (sc.getD (i + 2) 0)) (fin : ∀ (s' t' : sg) (HS' : mH), R s' t' → LR (hp shC s') (hp shM t') HS' → mFin sc 31 nc ns (1441, lawL i, [], HS', nc, ns)) : mFin sc 31 nc ns (33, lawL i, [.int (nI 17)], HS, nc, ns) := by
  obtain ⟨u, w, s', t', A, B, hR'⟩ := k
  have hA := ((ok_C_cold A).le (by decide : 4 ≤ 30)).sc sc (by decide)
  have hB := ((ok_M_cold B).le (by decide : 4 ≤ 30)).sc sc (by decide)
  exact law_sw (by decide) rfl (t := 685) (by decide) (law_case_17 hL31 hi hLR (hpC10 s) (hpM10 t) hA hB (fun HS' hLR' => fin s' t' HS' hR' hLR'))
set_option maxRecDepth 100000 in
theorem law_do_18 (hL31 : sc.length < 2 ^ 31) (hi : i + 6 ≤ sc.length) (hLR : LR (hp shC s) (hp shM t) HS) (k : stepOK_18 R s t) (fin : ∀ (s' t' : sg) (HS' : mH), R s' t' → LR (hp shC s') (hp shM t') HS' → mFin sc 31 nc ns (1441, lawL i, [], HS', nc, ns)) : mFin sc 31 nc ns (33, lawL i, [.int (nI 18)], HS, nc, ns) := by
  obtain ⟨u, w, s', t', A, B, hR'⟩ := k
  have hA := ((ok_C_again A).le (by decide : 5 ≤ 30)).sc sc (by decide)
  have hB := ((ok_M_again B).le (by decide : 4 ≤ 30)).sc sc (by decide)
  exact law_sw (by decide) rfl (t := 718) (by decide) (law_case_18 hL31 hi hLR (hpC10 s) (hpM10 t) hA hB (fun HS' hLR' => fin s' t' HS' hR' hLR'))
set_option maxRecDepth 100000 in
theorem law_do_19 (hL31 : sc.length < 2 ^ 31) (hi : i + 6 ≤ sc.length) (hLR : LR (hp shC s) (hp shM t) HS) (k : stepOK_19 R s t (sc.getD (i + 1) 0) (sc.getD (i + 2) 0) (sc.getD (i + 3) 0)) (fin : ∀ (s' t' : sg) (HS' : mH), R s' t' → LR (hp shC s') (hp shM t') HS' → mFin sc 31 nc ns (1441, lawL i, [], HS', nc, ns)) : mFin sc 31 nc ns (33, lawL i, [.int (nI 19)], HS, nc, ns) := by
  obtain ⟨u, w, s', t', A, B, hR'⟩ := k
  have hA := ((ok_C_need A).le (by decide : 5 ≤ 30)).sc sc (by decide)
  have hB := ((ok_M_need B).le (by decide : 5 ≤ 30)).sc sc (by decide)
  exact law_sw (by decide) rfl (t := 731) (by decide) (law_case_19 hL31 hi hLR (hpC10 s) (hpM10 t) hA hB (fun HS' hLR' => fin s' t' HS' hR' hLR'))
set_option maxRecDepth 100000 in
theorem law_do_20 (hL31 : sc.length < 2 ^ 31) (hi : i + 6 ≤ sc.length) (hLR : LR (hp shC s) (hp shM t) HS) (k : stepOK_20 R s t (sc.getD (i + 1) 0) (sc.getD (i + 2) 0) (sc.getD (i + 3) 0)) (fin : ∀ (s' t' : sg) (HS' : mH), R s' t' → LR (hp shC s') (hp shM t') HS' → mFin sc 31 nc ns (1441, lawL i, [], HS', nc, ns)) : mFin sc 31 nc ns (33, lawL i, [.int (nI 20)], HS, nc, ns) := by
  obtain ⟨u, w, s', t', A, B, hR'⟩ := k
  have hA := ((ok_C_kind A).le (by decide : 5 ≤ 30)).sc sc (by decide)
  have hB := ((ok_M_kind B).le (by decide : 5 ≤ 30)).sc sc (by decide)
  exact law_sw (by decide) rfl (t := 774) (by decide) (law_case_20 hL31 hi hLR (hpC10 s) (hpM10 t) hA hB (fun HS' hLR' => fin s' t' HS' hR' hLR'))
set_option maxRecDepth 100000 in
theorem law_do_21 (hL31 : sc.length < 2 ^ 31) (hi : i + 6 ≤ sc.length) (hLR : LR (hp shC s) (hp shM t) HS) (k : stepOK_21 R s t (sc.getD (i + 1) 0) (sc.getD (i + 2) 0)) (fin : ∀ (s' t' : sg) (HS' : mH), R s' t' → LR (hp shC s') (hp shM t') HS' → mFin sc 31 nc ns (1441, lawL i, [], HS', nc, ns)) : mFin sc 31 nc ns (33, lawL i, [.int (nI 21)], HS, nc, ns) := by
  obtain ⟨u, w, s', t', A, B, hR'⟩ := k
  have hA := ((ok_C_swap A).le (by decide : 5 ≤ 30)).sc sc (by decide)
  have hB := ((ok_M_swap B).le (by decide : 5 ≤ 30)).sc sc (by decide)
  exact law_sw (by decide) rfl (t := 817) (by decide) (law_case_21 hL31 hi hLR (hpC10 s) (hpM10 t) hA hB (fun HS' hLR' => fin s' t' HS' hR' hLR'))
set_option maxRecDepth 100000 in
theorem law_do_22 (hL31 : sc.length < 2 ^ 31) (hi : i + 6 ≤ sc.length) (hLR : LR (hp shC s) (hp shM t) HS) (k : stepOK_22 R s t (sc.getD (i + 1) 0) (sc.getD (i + 2) 0)) (fin : ∀ (s' t' : sg) (HS' : mH), R s' t' → LR (hp shC s') (hp shM t') HS' → mFin sc 31 nc ns (1441, lawL i, [], HS', nc, ns)) : mFin sc 31 nc ns (33, lawL i, [.int (nI 22)], HS, nc, ns) := by
  obtain ⟨u, w, s', t', A, B, hR'⟩ := k
  have hA := ((ok_C_seal A).le (by decide : 5 ≤ 30)).sc sc (by decide)
  have hB := ((ok_M_seal B).le (by decide : 5 ≤ 30)).sc sc (by decide)
  exact law_sw (by decide) rfl (t := 850) (by decide) (law_case_22 hL31 hi hLR (hpC10 s) (hpM10 t) hA hB (fun HS' hLR' => fin s' t' HS' hR' hLR'))
set_option maxRecDepth 100000 in
theorem law_do_23 (hL31 : sc.length < 2 ^ 31) (hi : i + 6 ≤ sc.length) (hLR : LR (hp shC s) (hp shM t) HS) (k : stepOK_23 R s t (sc.getD (i + 1) 0) (sc.getD (i + 2) 0) (sc.getD (i + 3) 0)) (fin : ∀ (s' t' : sg) (HS' : mH), R s' t' → LR (hp shC s') (hp shM t') HS' → mFin sc 31 nc ns (1441, lawL i, [], HS', nc, ns)) : mFin sc 31 nc ns (33, lawL i, [.int (nI 23)], HS, nc, ns) := by
  obtain ⟨u, w, s', t', A, B, hR'⟩ := k
  have hA := ((ok_C_spare A).le (by decide : 5 ≤ 30)).sc sc (by decide)
  have hB := ((ok_M_spare B).le (by decide : 5 ≤ 30)).sc sc (by decide)
  exact law_sw (by decide) rfl (t := 883) (by decide) (law_case_23 hL31 hi hLR (hpC10 s) (hpM10 t) hA hB (fun HS' hLR' => fin s' t' HS' hR' hLR'))
set_option maxRecDepth 100000 in
theorem law_do_24 (hL31 : sc.length < 2 ^ 31) (hi : i + 6 ≤ sc.length) (hLR : LR (hp shC s) (hp shM t) HS) (k : stepOK_24 R s t (sc.getD (i + 1) 0) (sc.getD (i + 2) 0) (sc.getD (i + 3) 0) (sc.getD (i + 4) 0) (sc.getD (i + 5) 0)) (fin : ∀ (s' t' : sg) (HS' : mH), R s' t' → LR (hp shC s') (hp shM t') HS' → mFin sc 31 nc ns (1441, lawL i, [], HS', nc, ns)) : mFin sc 31 nc ns (33, lawL i, [.int (nI 24)], HS, nc, ns) := by
  obtain ⟨u, w, s', t', A, B, hR'⟩ := k
  have hA := ((ok_C_luck A).le (by decide : 14 ≤ 30)).sc sc (by decide)
  have hB := ((ok_M_luck B).le (by decide : 4 ≤ 30)).sc sc (by decide)
  exact law_sw (by decide) rfl (t := 926) (by decide) (law_case_24 hL31 hi hLR (hpC10 s) (hpM10 t) hA hB (fun HS' hLR' => fin s' t' HS' hR' hLR'))
set_option maxRecDepth 100000 in
theorem law_do_25 (hL31 : sc.length < 2 ^ 31) (hi : i + 6 ≤ sc.length) (hLR : LR (hp shC s) (hp shM t) HS) (k : stepOK_25 R s t (sc.getD (i + 1) 0) (sc.getD (i + 2) 0) (sc.getD (i + 3) 0)) (fin : ∀ (s' t' : sg) (HS' : mH), R s' t' → LR (hp shC s') (hp shM t') HS' → mFin sc 31 nc ns (1441, lawL i, [], HS', nc, ns)) : mFin sc 31 nc ns (33, lawL i, [.int (nI 25)], HS, nc, ns) := by
  obtain ⟨u, w, s', t', A, B, hR'⟩ := k
  have hA := ((ok_C_mean A).le (by decide : 14 ≤ 30)).sc sc (by decide)
  have hB := ((ok_M_mean B).le (by decide : 4 ≤ 30)).sc sc (by decide)
  exact law_sw (by decide) rfl (t := 989) (by decide) (law_case_25 hL31 hi hLR (hpC10 s) (hpM10 t) hA hB (fun HS' hLR' => fin s' t' HS' hR' hLR'))
set_option maxRecDepth 100000 in
theorem law_do_26 (hL31 : sc.length < 2 ^ 31) (hi : i + 6 ≤ sc.length) (hLR : LR (hp shC s) (hp shM t) HS) (k : stepOK_26 R s t (sc.getD (i + 1) 0) (sc.getD (i + 2) 0) (sc.getD (i + 3) 0)) (fin : ∀ (s' t' : sg) (HS' : mH), R s' t' → LR (hp shC s') (hp shM t') HS' → mFin sc 31 nc ns (1441, lawL i, [], HS', nc, ns)) : mFin sc 31 nc ns (33, lawL i, [.int (nI 26)], HS, nc, ns) := by
  obtain ⟨u, w, s', t', A, B, hR'⟩ := k
  have hA := ((ok_C_see A).le (by decide : 1 ≤ 30)).sc sc (by decide)
  have hB := ((ok_M_see B).le (by decide : 2 ≤ 30)).sc sc (by decide)
  exact law_sw (by decide) rfl (t := 1032) (by decide) (law_case_26 hL31 hi hLR (hpC10 s) (hpM10 t) hA hB (fun HS' hLR' => fin s' t' HS' hR' hLR'))
set_option maxRecDepth 100000 in
theorem law_do_27 (hL31 : sc.length < 2 ^ 31) (hi : i + 6 ≤ sc.length) (hLR : LR (hp shC s) (hp shM t) HS) (k : stepOK_27 R s t (sc.getD (i + 1) 0)) (fin : ∀ (s' t' : sg) (HS' : mH), R s' t' → LR (hp shC s') (hp shM t') HS' → mFin sc 31 nc ns (1441, lawL i, [], HS', nc, ns)) : mFin sc 31 nc ns (33, lawL i, [.int (nI 27)], HS, nc, ns) := by
  obtain ⟨u, w, s', t', A, B, hR'⟩ := k
  have hA := ((ok_C_forget A).le (by decide : 1 ≤ 30)).sc sc (by decide)
  have hB := ((ok_M_forget B).le (by decide : 1 ≤ 30)).sc sc (by decide)
  exact law_sw (by decide) rfl (t := 1075) (by decide) (law_case_27 hL31 hi hLR (hpC10 s) (hpM10 t) hA hB (fun HS' hLR' => fin s' t' HS' hR' hLR'))
set_option maxRecDepth 100000 in
theorem law_do_28 (hL31 : sc.length < 2 ^ 31) (hi : i + 6 ≤ sc.length) (hLR : LR (hp shC s) (hp shM t) HS) (k : stepOK_28 R s t (sc.getD (i + 1) 0)) (fin : ∀ (s' t' : sg) (HS' : mH), R s' t' → LR (hp shC s') (hp shM t') HS' → mFin sc 31 nc ns (1441, lawL i, [], HS', nc, ns)) : mFin sc 31 nc ns (33, lawL i, [.int (nI 28)], HS, nc, ns) := by
  obtain ⟨u, w, s', t', A, B, hR'⟩ := k
  have hA := ((ok_C_kinds A).le (by decide : 5 ≤ 30)).sc sc (by decide)
  have hB := ((ok_M_kinds B).le (by decide : 6 ≤ 30)).sc sc (by decide)
  exact law_sw (by decide) rfl (t := 1098) (by decide) (law_case_28 hL31 hi hLR (hpC10 s) (hpM10 t) hA hB (fun HS' hLR' => fin s' t' HS' hR' hLR'))
set_option maxRecDepth 100000 in
theorem law_do_29 (hL31 : sc.length < 2 ^ 31) (hi : i + 6 ≤ sc.length) (hLR : LR (hp shC s) (hp shM t) HS) (k : stepOK_29 R s t (sc.getD (i + 1) 0)) (fin : ∀ (s' t' : sg) (HS' : mH), R s' t' → LR (hp shC s') (hp shM t') HS' → mFin sc 31 nc ns (1441, lawL i, [], HS', nc, ns)) : mFin sc 31 nc ns (33, lawL i, [.int (nI 29)], HS, nc, ns) := by
  obtain ⟨u, w, s', t', A, B, hR'⟩ := k
  have hA := ((ok_C_lets A).le (by decide : 6 ≤ 30)).sc sc (by decide)
  have hB := ((ok_M_lets B).le (by decide : 6 ≤ 30)).sc sc (by decide)
  exact law_sw (by decide) rfl (t := 1121) (by decide) (law_case_29 hL31 hi hLR (hpC10 s) (hpM10 t) hA hB (fun HS' hLR' => fin s' t' HS' hR' hLR'))
set_option maxRecDepth 100000 in
theorem law_do_30 (hL31 : sc.length < 2 ^ 31) (hi : i + 6 ≤ sc.length) (hLR : LR (hp shC s) (hp shM t) HS) (k : stepOK_30 R s t (sc.getD (i + 1) 0) (sc.getD (i + 2) 0)) (fin : ∀ (s' t' : sg) (HS' : mH), R s' t' → LR (hp shC s') (hp shM t') HS' → mFin sc 31 nc ns (1441, lawL i, [], HS', nc, ns)) : mFin sc 31 nc ns (33, lawL i, [.int (nI 30)], HS, nc, ns) := by
  obtain ⟨u, w, s', t', A, B, hR'⟩ := k
  have hA := ((ok_C_ask A).le (by decide : 6 ≤ 30)).sc sc (by decide)
  have hB := ((ok_M_ask B).le (by decide : 6 ≤ 30)).sc sc (by decide)
  exact law_sw (by decide) rfl (t := 1144) (by decide) (law_case_30 hL31 hi hLR (hpC10 s) (hpM10 t) hA hB (fun HS' hLR' => fin s' t' HS' hR' hLR'))
set_option maxRecDepth 100000 in
theorem law_do_31 (hL31 : sc.length < 2 ^ 31) (hi : i + 6 ≤ sc.length) (hLR : LR (hp shC s) (hp shM t) HS) (k : stepOK_31 R s t (sc.getD (i + 1) 0) (sc.getD (i + 2) 0) (sc.getD (i + 3) 0)) (fin : ∀ (s' t' : sg) (HS' : mH), R s' t' → LR (hp shC s') (hp shM t') HS' → mFin sc 31 nc ns (1441, lawL i, [], HS', nc, ns)) : mFin sc 31 nc ns (33, lawL i, [.int (nI 31)], HS, nc, ns) := by
  obtain ⟨u, w, s', t', A, B, hR'⟩ := k
  have hA := ((ok_C_drift A).le (by decide : 3 ≤ 30)).sc sc (by decide)
  have hB := ((ok_M_drift B).le (by decide : 3 ≤ 30)).sc sc (by decide)
  exact law_sw (by decide) rfl (t := 1177) (by decide) (law_case_31 hL31 hi hLR (hpC10 s) (hpM10 t) hA hB (fun HS' hLR' => fin s' t' HS' hR' hLR'))
set_option maxRecDepth 100000 in
theorem law_do_32 (hL31 : sc.length < 2 ^ 31) (hi : i + 6 ≤ sc.length) (hLR : LR (hp shC s) (hp shM t) HS) (k : stepOK_32 R s t (sc.getD (i + 1) 0)) (fin : ∀ (s' t' : sg) (HS' : mH), R s' t' → LR (hp shC s') (hp shM t') HS' → mFin sc 31 nc ns (1441, lawL i, [], HS', nc, ns)) : mFin sc 31 nc ns (33, lawL i, [.int (nI 32)], HS, nc, ns) := by
  obtain ⟨u, w, s', t', A, B, hR'⟩ := k
  have hA := ((ok_C_keep A).le (by decide : 1 ≤ 30)).sc sc (by decide)
  have hB := ((ok_M_keep B).le (by decide : 1 ≤ 30)).sc sc (by decide)
  exact law_sw (by decide) rfl (t := 1220) (by decide) (law_case_32 hL31 hi hLR (hpC10 s) (hpM10 t) hA hB (fun HS' hLR' => fin s' t' HS' hR' hLR'))
set_option maxRecDepth 100000 in
theorem law_do_33 (hL31 : sc.length < 2 ^ 31) (hi : i + 6 ≤ sc.length) (hLR : LR (hp shC s) (hp shM t) HS) (k : stepOK_33 R s t (sc.getD (i + 1) 0)) (fin : ∀ (s' t' : sg) (HS' : mH), R s' t' → LR (hp shC s') (hp shM t') HS' → mFin sc 31 nc ns (1441, lawL i, [], HS', nc, ns)) : mFin sc 31 nc ns (33, lawL i, [.int (nI 33)], HS, nc, ns) := by
  obtain ⟨u, w, s', t', A, B, hR'⟩ := k
  have hA := ((ok_C_back A).le (by decide : 1 ≤ 30)).sc sc (by decide)
  have hB := ((ok_M_back B).le (by decide : 1 ≤ 30)).sc sc (by decide)
  exact law_sw (by decide) rfl (t := 1243) (by decide) (law_case_33 hL31 hi hLR (hpC10 s) (hpM10 t) hA hB (fun HS' hLR' => fin s' t' HS' hR' hLR'))
set_option maxRecDepth 100000 in
theorem law_do_34 (hL31 : sc.length < 2 ^ 31) (hi : i + 6 ≤ sc.length) (hLR : LR (hp shC s) (hp shM t) HS) (k : stepOK_34 R s t (sc.getD (i + 1) 0) (sc.getD (i + 2) 0) (sc.getD (i + 3) 0)) (fin : ∀ (s' t' : sg) (HS' : mH), R s' t' → LR (hp shC s') (hp shM t') HS' → mFin sc 31 nc ns (1441, lawL i, [], HS', nc, ns)) : mFin sc 31 nc ns (33, lawL i, [.int (nI 34)], HS, nc, ns) := by
  obtain ⟨u, w, s', t', A, B, hR'⟩ := k
  have hA := ((ok_C_sheet A).le (by decide : 1 ≤ 30)).sc sc (by decide)
  have hB := ((ok_M_sheet B).le (by decide : 1 ≤ 30)).sc sc (by decide)
  exact law_sw (by decide) rfl (t := 1266) (by decide) (law_case_34 hL31 hi hLR (hpC10 s) (hpM10 t) hA hB (fun HS' hLR' => fin s' t' HS' hR' hLR'))
set_option maxRecDepth 100000 in
theorem law_do_35 (hL31 : sc.length < 2 ^ 31) (hi : i + 6 ≤ sc.length) (hLR : LR (hp shC s) (hp shM t) HS) (k : stepOK_35 R s t (sc.getD (i + 1) 0) (sc.getD (i + 2) 0) (sc.getD (i + 3) 0)) (fin : ∀ (s' t' : sg) (HS' : mH), R s' t' → LR (hp shC s') (hp shM t') HS' → mFin sc 31 nc ns (1441, lawL i, [], HS', nc, ns)) : mFin sc 31 nc ns (33, lawL i, [.int (nI 35)], HS, nc, ns) := by
  obtain ⟨u, w, s', t', A, B, hR'⟩ := k
  have hA := ((ok_C_lay A).le (by decide : 2 ≤ 30)).sc sc (by decide)
  have hB := ((ok_M_lay B).le (by decide : 1 ≤ 30)).sc sc (by decide)
  exact law_sw (by decide) rfl (t := 1309) (by decide) (law_case_35 hL31 hi hLR (hpC10 s) (hpM10 t) hA hB (fun HS' hLR' => fin s' t' HS' hR' hLR'))
set_option maxRecDepth 100000 in
theorem law_do_36 (hL31 : sc.length < 2 ^ 31) (hi : i + 6 ≤ sc.length) (hLR : LR (hp shC s) (hp shM t) HS) (k : stepOK_36 R s t (sc.getD (i + 1) 0) (sc.getD (i + 2) 0) (sc.getD (i + 3) 0) (sc.getD (i + 4) 0)) (fin : ∀ (s' t' : sg) (HS' : mH), R s' t' → LR (hp shC s') (hp shM t') HS' → mFin sc 31 nc ns (1441, lawL i, [], HS', nc, ns)) : mFin sc 31 nc ns (33, lawL i, [.int (nI 36)], HS, nc, ns) := by
  obtain ⟨u, w, s', t', A, B, hR'⟩ := k
  have hA := ((ok_C_read A).le (by decide : 5 ≤ 30)).sc sc (by decide)
  have hB := ((ok_M_read B).le (by decide : 4 ≤ 30)).sc sc (by decide)
  exact law_sw (by decide) rfl (t := 1352) (by decide) (law_case_36 hL31 hi hLR (hpC10 s) (hpM10 t) hA hB (fun HS' hLR' => fin s' t' HS' hR' hLR'))
set_option maxRecDepth 100000 in
theorem law_do_37 (hL31 : sc.length < 2 ^ 31) (hi : i + 6 ≤ sc.length) (hLR : LR (hp shC s) (hp shM t) HS) (k : stepOK_37 R s t) (fin : ∀ (s' t' : sg) (HS' : mH), R s' t' → LR (hp shC s') (hp shM t') HS' → mFin sc 31 nc ns (1441, lawL i, [], HS', nc, ns)) : mFin sc 31 nc ns (33, lawL i, [.int (nI 37)], HS, nc, ns) := by
  obtain ⟨u, w, A, B, hR'⟩ := k
  have hA := ((ok_C_torn A).le (by decide : 0 ≤ 30)).sc sc (by decide)
  have hB := ((ok_M_torn B).le (by decide : 0 ≤ 30)).sc sc (by decide)
  exact law_sw (by decide) rfl (t := 1405) (by decide) (law_case_37 hL31 hi hLR (hpC10 s) (hpM10 t) hA hB (fun HS' hLR' => fin s t HS' hR' hLR'))
set_option maxRecDepth 100000 in
theorem law_do_38 (hL31 : sc.length < 2 ^ 31) (hi : i + 6 ≤ sc.length) (hLR : LR (hp shC s) (hp shM t) HS) (k : stepOK_38 R s t (sc.getD (i + 1) 0)) (fin : ∀ (s' t' : sg) (HS' : mH), R s' t' → LR (hp shC s') (hp shM t') HS' → mFin sc 31 nc ns (1441, lawL i, [], HS', nc, ns)) : mFin sc 31 nc ns (33, lawL i, [.int (nI 38)], HS, nc, ns) := by
  obtain ⟨u, w, A, B, hR'⟩ := k
  have hA := ((ok_C_count A).le (by decide : 1 ≤ 30)).sc sc (by decide)
  have hB := ((ok_M_count B).le (by decide : 0 ≤ 30)).sc sc (by decide)
  exact law_sw (by decide) rfl (t := 1418) (by decide) (law_case_38 hL31 hi hLR (hpC10 s) (hpM10 t) hA hB (fun HS' hLR' => fin s t HS' hR' hLR'))
end DO
end Q94
section Q94b
/-! the run -/
section ANY
variable {R : sg → sg → Prop} {sc : List Int32} {s t : sg} {HS : mH} {nc ns i : Nat}
theorem law_any (hL31 : sc.length < 2 ^ 31) (hi : i + 6 ≤ sc.length) (hLR : LR (hp shC s) (hp shM t) HS) (hOK : stepsOK R) (hR : R s t) (fin : ∀ (s' t' : sg) (HS' : mH), R s' t' → LR (hp shC s') (hp shM t') HS' → mFin sc 31 nc ns (1441, lawL i, [], HS', nc, ns)) (j : Nat) (hj : j < 39) : mFin sc 31 nc ns (33, lawL i, [.int (nI j)], HS, nc, ns) := by
  obtain ⟨k0, k1, k2, k3, k4, k5, k6, k7, k8, k9, k10, k11, k12, k13, k14, k15, k16, k17, k18, k19, k20, k21, k22, k23, k24, k25, k26, k27, k28, k29, k30, k31, k32, k33, k34, k35, k36, k37, k38⟩ := hOK s t hR (sc.getD (i + 1) 0) (sc.getD (i + 2) 0) (sc.getD (i + 3) 0) (sc.getD (i + 4) 0) (sc.getD (i + 5) 0)
  clear hOK hR
  obtain rfl | hj := Nat.lt_succ_iff_lt_or_eq.mp hj |>.symm
  · exact law_do_38 hL31 hi hLR k38 fin
  obtain rfl | hj := Nat.lt_succ_iff_lt_or_eq.mp hj |>.symm
  · exact law_do_37 hL31 hi hLR k37 fin
  obtain rfl | hj := Nat.lt_succ_iff_lt_or_eq.mp hj |>.symm
  · exact law_do_36 hL31 hi hLR k36 fin
  obtain rfl | hj := Nat.lt_succ_iff_lt_or_eq.mp hj |>.symm
  · exact law_do_35 hL31 hi hLR k35 fin
  obtain rfl | hj := Nat.lt_succ_iff_lt_or_eq.mp hj |>.symm
  · exact law_do_34 hL31 hi hLR k34 fin
  obtain rfl | hj := Nat.lt_succ_iff_lt_or_eq.mp hj |>.symm
  · exact law_do_33 hL31 hi hLR k33 fin
  obtain rfl | hj := Nat.lt_succ_iff_lt_or_eq.mp hj |>.symm
  · exact law_do_32 hL31 hi hLR k32 fin
  obtain rfl | hj := Nat.lt_succ_iff_lt_or_eq.mp hj |>.symm
  · exact law_do_31 hL31 hi hLR k31 fin
  obtain rfl | hj := Nat.lt_succ_iff_lt_or_eq.mp hj |>.symm
  · exact law_do_30 hL31 hi hLR k30 fin
  obtain rfl | hj := Nat.lt_succ_iff_lt_or_eq.mp hj |>.symm
  · exact law_do_29 hL31 hi hLR k29 fin
  obtain rfl | hj := Nat.lt_succ_iff_lt_or_eq.mp hj |>.symm
  · exact law_do_28 hL31 hi hLR k28 fin
  obtain rfl | hj := Nat.lt_succ_iff_lt_or_eq.mp hj |>.symm
  · exact law_do_27 hL31 hi hLR k27 fin
  obtain rfl | hj := Nat.lt_succ_iff_lt_or_eq.mp hj |>.symm
  · exact law_do_26 hL31 hi hLR k26 fin
  obtain rfl | hj := Nat.lt_succ_iff_lt_or_eq.mp hj |>.symm
  · exact law_do_25 hL31 hi hLR k25 fin
  obtain rfl | hj := Nat.lt_succ_iff_lt_or_eq.mp hj |>.symm
  · exact law_do_24 hL31 hi hLR k24 fin
  obtain rfl | hj := Nat.lt_succ_iff_lt_or_eq.mp hj |>.symm
  · exact law_do_23 hL31 hi hLR k23 fin
  obtain rfl | hj := Nat.lt_succ_iff_lt_or_eq.mp hj |>.symm
  · exact law_do_22 hL31 hi hLR k22 fin
  obtain rfl | hj := Nat.lt_succ_iff_lt_or_eq.mp hj |>.symm
  · exact law_do_21 hL31 hi hLR k21 fin
  obtain rfl | hj := Nat.lt_succ_iff_lt_or_eq.mp hj |>.symm
  · exact law_do_20 hL31 hi hLR k20 fin
  obtain rfl | hj := Nat.lt_succ_iff_lt_or_eq.mp hj |>.symm
  · exact law_do_19 hL31 hi hLR k19 fin
  obtain rfl | hj := Nat.lt_succ_iff_lt_or_eq.mp hj |>.symm
  · exact law_do_18 hL31 hi hLR k18 fin
  obtain rfl | hj := Nat.lt_succ_iff_lt_or_eq.mp hj |>.symm
  · exact law_do_17 hL31 hi hLR k17 fin
  obtain rfl | hj := Nat.lt_succ_iff_lt_or_eq.mp hj |>.symm
  · exact law_do_16 hL31 hi hLR k16 fin
  obtain rfl | hj := Nat.lt_succ_iff_lt_or_eq.mp hj |>.symm
  · exact law_do_15 hL31 hi hLR k15 fin
  obtain rfl | hj := Nat.lt_succ_iff_lt_or_eq.mp hj |>.symm
  · exact law_do_14 hL31 hi hLR k14 fin
  obtain rfl | hj := Nat.lt_succ_iff_lt_or_eq.mp hj |>.symm
  · exact law_do_13 hL31 hi hLR k13 fin
  obtain rfl | hj := Nat.lt_succ_iff_lt_or_eq.mp hj |>.symm
  · exact law_do_12 hL31 hi hLR k12 fin
  obtain rfl | hj := Nat.lt_succ_iff_lt_or_eq.mp hj |>.symm
  · exact law_do_11 hL31 hi hLR k11 fin
  obtain rfl | hj := Nat.lt_succ_iff_lt_or_eq.mp hj |>.symm
  · exact law_do_10 hL31 hi hLR k10 fin
  obtain rfl | hj := Nat.lt_succ_iff_lt_or_eq.mp hj |>.symm
  · exact law_do_9 hL31 hi hLR k9 fin
  obtain rfl | hj := Nat.lt_succ_iff_lt_or_eq.mp hj |>.symm
  · exact law_do_8 hL31 hi hLR k8 fin
  obtain rfl | hj := Nat.lt_succ_iff_lt_or_eq.mp hj |>.symm
  · exact law_do_7 hL31 hi hLR k7 fin
  obtain rfl | hj := Nat.lt_succ_iff_lt_or_eq.mp hj |>.symm
  · exact law_do_6 hL31 hi hLR k6 fin
  obtain rfl | hj := Nat.lt_succ_iff_lt_or_eq.mp hj |>.symm
  · exact law_do_5 hL31 hi hLR k5 fin
  obtain rfl | hj := Nat.lt_succ_iff_lt_or_eq.mp hj |>.symm
  · exact law_do_4 hL31 hi hLR k4 fin
  obtain rfl | hj := Nat.lt_succ_iff_lt_or_eq.mp hj |>.symm
  · exact law_do_3 hL31 hi hLR k3 fin
  obtain rfl | hj := Nat.lt_succ_iff_lt_or_eq.mp hj |>.symm
  · exact law_do_2 hL31 hi hLR k2 fin
  obtain rfl | hj := Nat.lt_succ_iff_lt_or_eq.mp hj |>.symm
  · exact law_do_1 hL31 hi hLR k1 fin
  obtain rfl | hj := Nat.lt_succ_iff_lt_or_eq.mp hj |>.symm
  · exact law_do_0 hL31 hi hLR k0 fin
  exact absurd hj (Nat.not_lt_zero j)
end ANY
theorem law_loop {R : sg → sg → Prop} (hOK : stepsOK R) {sc : List Int32} (hL30 : sc.length < 2 ^ 30) {nc ns : Nat} (n : Nat) : ∀ (i : Nat) (s t : sg) (HS : mH), sc.length < i + 6 * n → i < 2 ^ 30 → R s t → LR (hp shC s) (hp shM t) HS → mFin sc 31 nc ns (18, lawL i, [], HS, nc, ns) := by
  induction n with
  | zero => exact fun i s t HS hn hi2 hR hLR => law_out hL30 hi2 (by omega)
  | succ n ih =>
    intro i s t HS hn hi2 hR hLR
    by_cases hi : i + 6 ≤ sc.length
    · have hL31 : sc.length < 2 ^ 31 := by omega
      have fin : ∀ (s' t' : sg) (HS' : mH), R s' t' → LR (hp shC s') (hp shM t') HS' → mFin sc 31 nc ns (1441, lawL i, [], HS', nc, ns) := fun s' t' HS' h1 h2 => law_inc (ih (i + 6) s' t' HS' (by omega) (by omega) h1 h2)
      obtain ⟨j, hj, e⟩ := pk_andE (sc.getD i 0) (m := 63) 6 (by decide)
      refine law_in hL30 hi (law_which hL30 (by omega) e ?_)
      by_cases h39 : 39 ≤ j
      · exact law_skip hj h39 (fin s t HS hR hLR)
      · exact law_any hL31 hi hLR hOK hR fin j (by omega)
    · exact law_out hL30 hi2 (by omega)
end Q94b
section Q95
/-- the law up to its loop -/
theorem law_mid {sc : List Int32} {NC NS : Nat} {H H2 : mH} (hl : H.length = 141) (nm : mrun [] 300 10 110 (mentry 110 [.ref 141] (H ++ [.inr (5, mnew 5)])) = some (none, H2, 12, 2015)) (k : mFin sc 31 NC NS (18, lawL 0, [], H2, 144, 3205)) : mFin sc 31 NC NS (7, [some (.ref 0), none, none, none], [.ref 10], H, 131, 1161) := by
  refine mFin.steps 3 (q' := (12, [some (.ref 0), some (.ref 10), none, none], [.ref H.length, .ref H.length], H ++ [.inr (5, mnew 5)], 132, 1190)) rfl ?_
  rw [hl]
  refine mFin.call (d := 30) (y' := 110) (as := [.ref 141]) (q' := (15, [some (.ref 0), some (.ref 10), none, none], [.ref 141], H ++ [.inr (5, mnew 5)], 132, 1190)) rfl rfl (mEnds.sc sc (by decide) (mEnds.deep ⟨300, nm⟩ 20)) ?_
  show mFin sc 31 NC NS (15, [some (.ref 0), some (.ref 10), none, none], [.ref 141], H2, 144, 3205)
  exact mFin.steps 3 (q' := (18, lawL 0, [], H2, 144, 3205)) rfl k
theorem law_start {sc : List Int32} {NC NS : Nat} (k : mFin sc 31 NC NS (18, lawL 0, [], hp shC s0 ++ hMt, 144, 3205)) : mFin sc 31 NC NS (mentry 184 [.ref 0] (List.replicate 10 (.inl (0, [])))) := by
  refine mFin.steps 2 (q' := (4, [some (.ref 0), none, none, none], [.ref 10, .ref 10], hD ++ [.inr (4, mnew 4)], 1, 8)) rfl ?_
  have k2 := law_mid (hp_len shC s0) new_M k
  refine mFin.call (d := 30) (y' := 54) (as := [.ref 10]) (q' := (7, [some (.ref 0), none, none, none], [.ref 10], hD ++ [.inr (4, mnew 4)], 1, 8)) rfl rfl (mEnds.sc sc (by decide) (mEnds.deep ⟨1000, new_C⟩ 20)) ?_
  exact k2
theorem law_run {R : sg → sg → Prop} (hOK : stepsOK R) (h0 : R s0 t0) (sc : List Int32) (hL : sc.length ≤ 3072) : mFin sc 31 144 3205 (mentry 184 [.ref 0] (List.replicate 10 (.inl (0, [])))) :=
  law_start (law_loop hOK (by omega) 3072 0 s0 t0 _ (by omega) (by decide) h0 LR0)
end Q95
