/-! the law's run: two small heaps in the large one -/
def sC (k : Nat) : Nat := k
theorem cV_sC (v : Value) : cV sC v = v := by cases v <;> rfl
theorem map_sC (l : List Value) : l.map (cV sC) = l := by
  rw [List.map_congr_left (g := id) (fun v _ => cV_sC v), List.map_id]
def LR (hC hM HS : mH) : Prop := mEmb sC hC HS ∧ mEmb sM hM HS ∧ hC.length = 141 ∧ hM.length = 23
/-- ints are the same under all places -/
def mInts (as : List Value) : Prop := ∀ σ : Nat → Nat, as.map (cV σ) = as
def lawL (i : Nat) : mL := [some (.ref 0), some (.ref 10), some (.ref 141), some (.int (nI i))]
theorem LR.stepC {hC hC' hM HS HS' : mH} (h : LR hC hM HS) (h1 : mEmb sC hC' HS') (h2 : mOff sC hC.length HS HS') (h3 : hC'.length = hC.length) : LR hC' hM HS' := by
  refine ⟨h1, ⟨fun i x hi => ?_, h.2.1.2.1, h.2.1.2.2⟩, h3.trans h.2.2.1, h.2.2.2⟩
  rw [h2.2 (sM i) (fun j hj hl => ?_)]
  · exact h.2.1.1 i x hi
  · rw [h.2.2.1] at hl
    have hj : 10 ≤ j := hj
    show j ≠ (if i < 10 then i else i + 131)
    by_cases q : i < 10
    · rw [if_pos q]; omega
    · rw [if_neg q]; omega
theorem LR.stepM {hC hM hM' HS HS' : mH} (h : LR hC hM HS) (h1 : mEmb sM hM' HS') (h2 : mOff sM hM.length HS HS') (h3 : hM'.length = hM.length) : LR hC hM' HS' := by
  refine ⟨⟨fun i x hi => ?_, h.1.2.1, h.1.2.2⟩, h1, h.2.2.1, h3.trans h.2.2.2⟩
  rw [h2.2 (sC i) (fun j hj hl => ?_)]
  · exact h.1.1 i x hi
  · have hj : 10 ≤ j := hj
    have hi' : i < hC.length := (List.getElem?_eq_some_iff.mp hi).1
    rw [h.2.2.1] at hi'
    show (if j < 10 then j else j + 131) ≠ i
    rw [if_neg (by omega)]; omega
theorem mEnds.any {sc sc' : List Int32} {d y : Nat} {q : mS} {x : Option Value × mH × Nat × Nat} (h : mEnds sc d y q x) (e : ∀ n, mrun sc n d y q = some x → mrun sc' n d y q = some x) : mEnds sc' d y q x := by
  obtain ⟨n, hn⟩ := h
  exact ⟨n, e n hn⟩
/-- the law comes to its end with 1 -/
def mFin (sc : List Int32) (d NC NS : Nat) (q : mS) : Prop := ∃ hs', mEnds sc d 184 q (some (.int 1), hs', NC, NS)
theorem mFin.step {sc : List Int32} {d NC NS : Nat} {q q' : mS} (h1 : mstep sc 184 q = some (.inl q')) (h2 : mmon q q' = true) (h : mFin sc d NC NS q') : mFin sc d NC NS q := by
  obtain ⟨w, h⟩ := h; exact ⟨w, mEnds.step h1 h2 h⟩
theorem mFin.steps {sc : List Int32} {d NC NS : Nat} (k : Nat) {q q' : mS} (h1 : msteps sc k 184 q = some q') (h : mFin sc d NC NS q') : mFin sc d NC NS q := by
  obtain ⟨w, h⟩ := h; exact ⟨w, mEnds.steps k h1 h⟩
theorem mFin.call {sc : List Int32} {d NC NS y' : Nat} {as : List Value} {q q' : mS} {v : Option Value} {hs' : mH} {c' s' : Nat} (h1 : mstep sc 184 q = some (.inr (.inr (y', as, q')))) (h2 : (mmon q q' && Nat.ble (margs as).length (mmaxL y')) = true)
    (h3 : mEnds sc d y' (mentry y' as q'.2.2.2.1) (v, hs', c', s')) (h : mFin sc (d + 1) NC NS (q'.1, q'.2.1, v.toList ++ q'.2.2.1, hs', q'.2.2.2.2.1 + c', q'.2.2.2.2.2 + s')) : mFin sc (d + 1) NC NS q := by
  obtain ⟨w, h⟩ := h; exact ⟨w, mEnds.call h1 h2 h3 h⟩
section LAW
variable {sc : List Int32} {d : Nat} {hC hM HS : mH} {nc ns : Nat} {NC NS : Nat} {st : List Value}
theorem step_fetch {y : Nat} {q : mS} {i : mI} {o : mO} (hf : mfetch y q.1 = some i) (h : mexec sc y i.2.1 i.2.2.2.1 i.2.2.2.2.1 i.2.2.2.2.2 q.1 q.2.1 q.2.2.1 q.2.2.2.1 q.2.2.2.2.1 q.2.2.2.2.2 = some o) : mstep sc y q = some o := by rw [mstep_of hf]; exact h
theorem mmon_rf {pc pc' : Nat} {l l' : mL} {s s' : List Value} {h h' : mH} {nc ns : Nat} : mmon (pc, l, s, h, nc, ns) (pc', l', s', h', nc, ns) = true := by
  unfold mmon
  rw [Nat.ble_eq_true_of_le (Nat.le_refl _), Nat.ble_eq_true_of_le (Nat.le_refl _)]; rfl
/-- a number of the script -/
theorem law_num {pc i j : Nat} {ix : Int32} (hf : mfetch 184 pc = some (pc, .iaload, 1, 0, 0, 0)) (hj : midx ix sc.length = some j)
    (k : mFin sc d NC NS (pc + 1, lawL i, .int (sc.getD j 0) :: st, HS, nc, ns)) : mFin sc d NC NS (pc, lawL i, .int ix :: .ref 0 :: st, HS, nc, ns) :=
  mFin.step (step_fetch hf ((oI_eq hj).trans rfl)) mmon_rf k
theorem midx_of {n N : Nat} (h : n < N) (hN : N < 2 ^ 31) : midx (nI n) N = some n := by
  have h1 : ¬ nI n < 0 := nI_pos (by omega)
  unfold midx
  rw [if_neg h1, nI_clamp (by omega), blt_of h]; rfl
theorem law_arg {pc i k : Nat} (h : i + k < sc.length) (hL : sc.length < 2 ^ 31) (hf0 : mfetch 184 pc = some (pc, .aload_n 0, 1, 0, 0, 0)) (hf1 : mfetch 184 (pc + 1) = some (pc + 1, .iload_n 3, 1, 0, 0, 0)) (hf2 : mfetch 184 (pc + 1 + 1) = some (pc + 1 + 1, .iconst (k : Int), 1, 0, 0, 0)) (hf3 : mfetch 184 (pc + 1 + 1 + 1) = some (pc + 1 + 1 + 1, .iadd, 1, 0, 0, 0)) (hf4 : mfetch 184 (pc + 1 + 1 + 1 + 1) = some (pc + 1 + 1 + 1 + 1, .iaload, 1, 0, 0, 0))
    (kk : mFin sc d NC NS (pc + 5, lawL i, .int (sc.getD (i + k) 0) :: st, HS, nc, ns)) : mFin sc d NC NS (pc, lawL i, st, HS, nc, ns) := by
  refine mFin.step (q' := (pc + 1, lawL i, .ref 0 :: st, HS, nc, ns)) (step_fetch hf0 rfl) mmon_rf ?_
  refine mFin.step (q' := (pc + 1 + 1, lawL i, .int (nI i) :: .ref 0 :: st, HS, nc, ns)) (step_fetch hf1 rfl) mmon_rf ?_
  refine mFin.step (q' := (pc + 1 + 1 + 1, lawL i, .int (Int32.ofInt k) :: .int (nI i) :: .ref 0 :: st, HS, nc, ns)) (step_fetch hf2 rfl) mmon_rf ?_
  refine mFin.step (q' := (pc + 1 + 1 + 1 + 1, lawL i, .int (nI i + Int32.ofInt k) :: .ref 0 :: st, HS, nc, ns)) (step_fetch hf3 rfl) mmon_rf ?_
  have e : nI i + Int32.ofInt k = nI (i + k) := by rw [← nI_add]; rfl
  rw [e]
  exact law_num hf4 (midx_of h hL) kk
theorem law_call {pc idx a r i : Nat} {as : List Value} {vs : List Value} {v : Value} {HS' : mH} (hf : mfetch 184 pc = some (pc, .invokevirtual idx, 3, a, 0, 0)) (hn : as.length = marg a) (hr : HS[r]? = some (.inr (mown a, vs))) (h6 : Nat.blt (mown a) 6 = true) (hc : Nat.ble (mcat st) 8 = true) (hm : (margs (.ref r :: as)).length ≤ mmaxL a)
    (h : mEnds sc d a (mentry a (.ref r :: as) HS) (some v, HS', 0, 0)) (k : mFin sc (d + 1) NC NS (pc + 3, lawL i, v :: st, HS', nc, ns)) : mFin sc (d + 1) NC NS (pc, lawL i, as.reverse ++ .ref r :: st, HS, nc, ns) := by
  have hp : mpop (marg a) (as.reverse ++ .ref r :: st) = some (as, .ref r :: st) := by
    unfold mpop
    rw [← hn, Nat.ble_eq_true_of_le (by rw [List.length_append, List.length_reverse]; omega), cond_true]
    have e : as.length = as.reverse.length := List.length_reverse.symm
    rw [e, List.take_left, List.drop_left, List.reverse_reverse]
  refine mFin.call (q' := (pc + 3, lawL i, st, HS, nc, ns)) (step_fetch hf ((oP_eq hp).trans ((hO_eq hr).trans ((oB_eq (Nat.beq_refl _)).trans ((oB_eq h6).trans ((oB_eq hc).trans rfl)))))) ?_ h k
  rw [mmon_rf, Nat.ble_eq_true_of_le hm]; rfl
/-- a call of the class -/
theorem law_C {pc idx a i : Nat} {as vs : List Value} {v : Value} {hC' : mH} (hR : LR hC hM HS) (hf : mfetch 184 pc = some (pc, .invokevirtual idx, 3, a, 0, 0)) (ha : a < 184) (hn : as.length = marg a) (hi : mInts as) (hv : ∀ σ, cV σ v = v) (ho : mown a = 4) (hr : hC[10]? = some (.inr (4, vs))) (hc : Nat.ble (mcat st) 8 = true) (hm : (margs (.ref 10 :: as)).length ≤ mmaxL a)
    (h : mEnds sc d a (mentry a (.ref 10 :: as) hC) (some v, hC', 0, 0)) (k : ∀ HS', LR hC' hM HS' → mFin sc (d + 1) NC NS (pc + 3, lawL i, v :: st, HS', nc, ns)) : mFin sc (d + 1) NC NS (pc, lawL i, as.reverse ++ .ref 10 :: st, HS, nc, ns) := by
  obtain ⟨n, hn'⟩ := h
  obtain ⟨HS', g1, g2, g3, g4⟩ := f_run (σ := sC) n d a (mentry a (.ref 10 :: as) hC) HS (some v) hC' ha hn' hR.1
  have g1' : mrun sc n d a (mentry a (.ref 10 :: as) HS) = some (some v, HS', 0, 0) := by
    have e := rL_entry sC a (.ref 10 :: as) hC HS
    rw [List.map_cons, hi sC] at e
    have e2 : mentry a (.ref 10 :: as) HS = mentry a (cV sC (.ref 10) :: as) HS := rfl
    rw [e2, e]
    have g := g1
    rw [Option.map_some, hv sC] at g
    exact g
  refine law_call hf hn (vs := vs) ?_ (by rw [ho]; rfl) hc hm ⟨n, g1'⟩ (k HS' (hR.stepC g2 g3 g4))
  have := hR.1.1 10 _ hr
  rw [ho]
  have e : rE sC (.inr (4, vs)) = .inr (4, vs) := by show Sum.inr (4, vs.map (cV sC)) = _; rw [map_sC]
  rw [e] at this
  exact this
/-- a call of the reference -/
theorem law_M {pc idx a i : Nat} {as vs : List Value} {v : Value} {hM' : mH} (hR : LR hC hM HS) (hf : mfetch 184 pc = some (pc, .invokevirtual idx, 3, a, 0, 0)) (ha : a < 184) (hn : as.length = marg a) (hi : mInts as) (hv : ∀ σ, cV σ v = v) (ho : mown a = 5) (hr : hM[10]? = some (.inr (5, vs))) (hc : Nat.ble (mcat st) 8 = true) (hm : (margs (.ref 141 :: as)).length ≤ mmaxL a)
    (h : mEnds sc d a (mentry a (.ref 10 :: as) hM) (some v, hM', 0, 0)) (k : ∀ HS', LR hC hM' HS' → mFin sc (d + 1) NC NS (pc + 3, lawL i, v :: st, HS', nc, ns)) : mFin sc (d + 1) NC NS (pc, lawL i, as.reverse ++ .ref 141 :: st, HS, nc, ns) := by
  obtain ⟨n, hn'⟩ := h
  obtain ⟨HS', g1, g2, g3, g4⟩ := f_run (σ := sM) n d a (mentry a (.ref 10 :: as) hM) HS (some v) hM' ha hn' hR.2.1
  have g1' : mrun sc n d a (mentry a (.ref 141 :: as) HS) = some (some v, HS', 0, 0) := by
    have e := rL_entry sM a (.ref 10 :: as) hM HS
    rw [List.map_cons, hi sM] at e
    have e2 : mentry a (.ref 141 :: as) HS = mentry a (cV sM (.ref 10) :: as) HS := rfl
    rw [e2, e]
    have g := g1
    rw [Option.map_some, hv sM] at g
    exact g
  exact law_call hf hn (vs := vs.map (cV sM)) (by rw [ho]; exact hR.2.1.1 10 _ hr) (by rw [ho]; rfl) hc hm ⟨n, g1'⟩ (k HS' (hR.stepM g2 g3 g4))
theorem lg_self (u : Int64) : lg_cmp u u = 0 := by
  unfold lg_cmp
  rw [if_neg (Int64.lt_irrefl), if_pos rfl]
theorem law_eq {pc i : Nat} {off : Int} {u : Int32} (hf : mfetch 184 pc = some (pc, .if_icmp .eq off, 3, 0, 0, 0)) (ht : (pc : Int) + off = ((1441 : Nat) : Int)) (k : mFin sc d NC NS (1441, lawL i, [], HS, nc, ns)) : mFin sc d NC NS (pc, lawL i, [.int u, .int u], HS, nc, ns) := by
  refine mFin.step (step_fetch hf ?_) mmon_rf k
  show (bif mtk .eq u u then mjp pc off (lawL i) [] HS nc ns else mgo (pc + 3) (lawL i) [] HS nc ns) = _
  have e : mtk .eq u u = true := decide_eq_true rfl
  rw [e, cond_true]
  exact mjp_eq ht
theorem law_leq {pc i : Nat} {off : Int} {u : Int64} (hf0 : mfetch 184 pc = some (pc, .lcmp, 1, 0, 0, 0)) (hf : mfetch 184 (pc + 1) = some (pc + 1, .ifCond .eq off, 3, 0, 0, 0)) (ht : ((pc + 1 : Nat) : Int) + off = ((1441 : Nat) : Int)) (k : mFin sc d NC NS (1441, lawL i, [], HS, nc, ns)) : mFin sc d NC NS (pc, lawL i, [.long u, .long u], HS, nc, ns) := by
  refine mFin.step (q' := (pc + 1, lawL i, [.int (lg_cmp u u)], HS, nc, ns)) (step_fetch hf0 rfl) mmon_rf ?_
  refine mFin.step (step_fetch hf ?_) mmon_rf k
  show (bif mtk .eq (lg_cmp u u) 0 then mjp (pc + 1) off (lawL i) [] HS nc ns else mgo (pc + 1 + 3) (lawL i) [] HS nc ns) = _
  have e : mtk .eq (lg_cmp u u) 0 = true := decide_eq_true (lg_self u)
  rw [e, cond_true]
  exact mjp_eq ht
theorem law_pop {pc i : Nat} {v : Value} (hf : mfetch 184 pc = some (pc, .pop, 1, 0, 0, 0)) (hv : v.category = 1) (k : mFin sc d NC NS (pc + 1, lawL i, st, HS, nc, ns)) : mFin sc d NC NS (pc, lawL i, v :: st, HS, nc, ns) :=
  mFin.step (step_fetch hf ((oB_eq (by rw [hv]; rfl)).trans rfl)) mmon_rf k
theorem law_pop2 {pc i : Nat} {v : Value} (hf : mfetch 184 pc = some (pc, .pop2, 1, 0, 0, 0)) (hv : v.category = 2) (k : mFin sc d NC NS (pc + 1, lawL i, st, HS, nc, ns)) : mFin sc d NC NS (pc, lawL i, v :: st, HS, nc, ns) :=
  mFin.step (step_fetch hf ((oB_eq (by rw [hv]; rfl)).trans rfl)) mmon_rf k
theorem law_go {pc i : Nat} {off : Int} (hf : mfetch 184 pc = some (pc, .goto off, 3, 0, 0, 0)) (ht : (pc : Int) + off = ((1441 : Nat) : Int)) (k : mFin sc d NC NS (1441, lawL i, [], HS, nc, ns)) : mFin sc d NC NS (pc, lawL i, [], HS, nc, ns) :=
  mFin.step (step_fetch hf (mjp_eq ht)) mmon_rf k
end LAW
