/-! the reference's hours on new objects -/
set_option maxRecDepth 100000 in
theorem rh_loop {N : Nat} (hN : N ≤ 60) : ∀ (m k : Nat), k + m = N → mEnds [] 20 151 (42, [some (.ref 1), some (.int (nI N)), some (.int 0), some (.int (nI k))], [], hm0 k, 0, 0) (some (.int 0), hm0 N, 0, 0)
  | 0, k, h => by
    have e : k = N := by omega
    subst e
    refine mEnds.steps 2 (q' := (44, [some (.ref 1), some (.int (nI k)), some (.int 0), some (.int (nI k))], [.int (nI k), .int (nI k)], hm0 k, 0, 0)) rfl ?_
    refine mEnds.brT (q' := (58, [some (.ref 1), some (.int (nI k)), some (.int 0), some (.int (nI k))], [], hm0 k, 0, 0)) rfl (decide_eq_true (nI_le (Nat.le_refl k) (by omega))) rfl ?_
    refine mEnds.steps 4 (q' := (65, [some (.ref 1), some (.int (nI k)), some (.int 0), some (.int (nI k))], [.int 0], hm0 k, 0, 0)) rfl ?_
    refine mEnds.steps 2 (q' := (67, [some (.ref 1), some (.int (nI k)), some (.int 0), some (.int (nI k))], [.int 0], hm0 k, 0, 0)) rfl ?_
    exact mEnds.ret rfl
  | m + 1, k, h => by
    refine mEnds.steps 2 (q' := (44, [some (.ref 1), some (.int (nI N)), some (.int 0), some (.int (nI k))], [.int (nI N), .int (nI k)], hm0 k, 0, 0)) rfl ?_
    refine mEnds.brF (q' := (47, [some (.ref 1), some (.int (nI N)), some (.int 0), some (.int (nI k))], [], hm0 k, 0, 0)) rfl (decide_eq_false (nI_ge (by omega) (by omega))) rfl ?_
    refine mEnds.steps 2 (q' := (49, [some (.ref 1), some (.int (nI N)), some (.int 0), some (.int (nI k))], [.int 0, .ref 1], hm0 k, 0, 0)) rfl ?_
    refine mEnds.call (d := 19) (y' := 134) (as := [.ref 1, .int 0]) (q' := (52, [some (.ref 1), some (.int (nI N)), some (.int 0), some (.int (nI k))], [], hm0 k, 0, 0)) (v := none) (hs' := hm0 (k + 1)) (c' := 0) (s' := 0) rfl rfl (mEnds.deep (go0 (by omega)) 2) ?_
    refine mEnds.steps 2 (q' := (42, [some (.ref 1), some (.int (nI N)), some (.int 0), some (.int (nI k + 1))], [], hm0 (k + 1), 0, 0)) rfl ?_
    rw [nI_1]
    exact rh_loop hN m (k + 1) (by omega)
def tt (k : Nat) : Int32 := bif Nat.beq k 0 then 99 else (-4)
theorem cold_all : (List.range 60).all (fun k => eqR (mrun [] 60 17 137 (mentry 137 [.ref 1, .int 208] (hg (k + 1) (tt k)))) (some (.int (-4))) (hg (k + 1) (tt k)) 0 0) = true := by decide +kernel
theorem coldT {k : Nat} (h : k < 60) : mEnds [] 17 137 (mentry 137 [.ref 1, .int 208] (hg (k + 1) (tt k))) (some (.int (-4)), hg (k + 1) (tt k), 0, 0) := ⟨60, eqR_ok (List.all_eq_true.mp cold_all k (List.mem_range.mpr h))⟩
set_option maxRecDepth 100000 in
theorem hgo_loop {N : Nat} (hN : N ≤ 60) : ∀ (m k : Nat) (o : Option Value), k + m = N → mEnds [] 18 153 (27, [some (.ref 1), some (.int 0), some (.int (nI N)), some (.int (nI k)), o], [], hg k (tt k), 0, 0) (some (.int 0), hg N (tt N), 0, 0)
  | 0, k, o, h => by
    have e : k = N := by omega
    subst e
    refine mEnds.steps 2 (q' := (29, [some (.ref 1), some (.int 0), some (.int (nI k)), some (.int (nI k)), o], [.int (nI k), .int (nI k)], hg k (tt k), 0, 0)) rfl ?_
    refine mEnds.brT (q' := (98, [some (.ref 1), some (.int 0), some (.int (nI k)), some (.int (nI k)), o], [], hg k (tt k), 0, 0)) rfl (decide_eq_true (nI_le (Nat.le_refl k) (by omega))) rfl ?_
    refine mEnds.steps 4 (q' := (106, [some (.ref 1), some (.int 0), some (.int (nI k)), some (.int (nI k)), o], [.int 0], hg k (tt k), 0, 0)) rfl ?_
    refine mEnds.steps 4 (q' := (113, [some (.ref 1), some (.int 0), some (.int (nI k)), some (.int (nI k)), o], [.int 0, .int 0], hg k (tt k), 0, 0)) rfl ?_
    refine mEnds.steps 1 (q' := (114, [some (.ref 1), some (.int 0), some (.int (nI k)), some (.int (nI k)), o], [.int 0], hg k (tt k), 0, 0)) rfl ?_
    exact mEnds.ret rfl
  | m + 1, k, o, h => by
    refine mEnds.steps 2 (q' := (29, [some (.ref 1), some (.int 0), some (.int (nI N)), some (.int (nI k)), o], [.int (nI N), .int (nI k)], hg k (tt k), 0, 0)) rfl ?_
    refine mEnds.brF (q' := (32, [some (.ref 1), some (.int 0), some (.int (nI N)), some (.int (nI k)), o], [], hg k (tt k), 0, 0)) rfl (decide_eq_false (nI_ge (by omega) (by omega))) rfl ?_
    refine mEnds.steps 2 (q' := (36, [some (.ref 1), some (.int 0), some (.int (nI N)), some (.int (nI k)), o], [.int 208, .ref 1], hg k (tt k), 0, 0)) rfl ?_
    refine mEnds.call (d := 17) (y' := 134) (as := [.ref 1, .int 208]) (q' := (39, [some (.ref 1), some (.int 0), some (.int (nI N)), some (.int (nI k)), o], [], hg k (tt k), 0, 0)) (v := none) (hs' := hg (k + 1) (tt k)) (c' := 0) (s' := 0) rfl rfl (mEnds.deep (goT (by omega)) 1) ?_
    refine mEnds.steps 2 (q' := (43, [some (.ref 1), some (.int 0), some (.int (nI N)), some (.int (nI k)), o], [.int 208, .ref 1], hg (k + 1) (tt k), 0, 0)) rfl ?_
    refine mEnds.call (d := 17) (y' := 137) (as := [.ref 1, .int 208]) (q' := (46, [some (.ref 1), some (.int 0), some (.int (nI N)), some (.int (nI k)), o], [], hg (k + 1) (tt k), 0, 0)) (v := some (.int (-4))) (hs' := hg (k + 1) (tt k)) (c' := 0) (s' := 0) rfl rfl (coldT (by omega)) ?_
    cases k with
    | zero =>
      refine mEnds.steps 19 (q' := (27, [some (.ref 1), some (.int 0), some (.int (nI N)), some (.int (nI 0 + 1)), some (.int (-4))], [], hg 1 (-4), 0, 0)) rfl ?_
      rw [nI_1]
      exact hgo_loop hN m (0 + 1) _ (by omega)
    | succ k =>
      refine mEnds.steps 19 (q' := (27, [some (.ref 1), some (.int 0), some (.int (nI N)), some (.int (nI (k + 1) + 1)), some (.int (-4))], [], hg (k + 1 + 1) (-4), 0, 0)) rfl ?_
      rw [nI_1]
      exact hgo_loop hN m (k + 1 + 1) _ (by omega)
set_option maxRecDepth 100000 in
theorem hg_0 : ((hM0.set 1 (.inr (5, [.ref 2, .int 0, .ref 3, .int 0, .int 0, .int 0, .int 0, .ref 4, .int 0, .int 0, .int 0, .int 0, .int 0, .int 0, .int 0, .int 0, .ref 5, .ref 6, .ref 7, .int (-4), .int 0, .ref 8, .int 0, .ref 9, .ref 10, .ref 11, .ref 12, .ref 13, .int 0]))).set 1 (.inr (5, [.ref 2, .int 0, .ref 3, .int 0, .int 0, .int 0, .int 0, .ref 4, .int 0, .int 0, .int 0, .int 0, .int 0, .int 0, .int 0, .int 0, .ref 5, .ref 6, .ref 7, .int (-4), .int 99, .ref 8, .int 0, .ref 9, .ref 10, .ref 11, .ref 12, .ref 13, .int 0]))) = hg 0 (tt 0) := eqH_ok (by decide +kernel)
set_option maxRecDepth 100000 in
theorem hgo {N : Nat} (hN : N ≤ 60) : mEnds [] 18 153 (mentry 153 [.ref 1, .int 0, .int (nI N)] hM0) (some (.int 0), hg N (tt N), 0, 0) := by
  refine mEnds.steps 3 (q' := (5, [some (.ref 1), some (.int 0), some (.int (nI N)), none, none], [.int 208, .int 0, .ref 1], hM0, 0, 0)) rfl ?_
  refine mEnds.call (d := 17) (y' := 152) (as := [.ref 1, .int 0, .int 208]) (q' := (8, [some (.ref 1), some (.int 0), some (.int (nI N)), none, none], [], hM0, 0, 0)) (v := none) (hs' := hM0) (c' := 0) (s' := 0) rfl rfl ?_ ?_
  · exact mEnds.deep cp_0_208 7
  show mEnds [] 18 153 (8, [some (.ref 1), some (.int 0), some (.int (nI N)), none, none], [], hM0, 0, 0) _
  refine mEnds.steps 3 (q' := (13, [some (.ref 1), some (.int 0), some (.int (nI N)), none, none], [.int 208, .ref 1, .ref 1], hM0, 0, 0)) rfl ?_
  refine mEnds.call (d := 17) (y' := 137) (as := [.ref 1, .int 208]) (q' := (16, [some (.ref 1), some (.int 0), some (.int (nI N)), none, none], [.ref 1], hM0, 0, 0)) (v := some (.int (-4))) (hs' := hM0) (c' := 0) (s' := 0) rfl rfl ?_ ?_
  · refine mEnds.steps 13 (q' := (57, [some (.ref 1), some (.int 208), some (.int (-4)), some (.int 0)], [.int (-4)], hM0, 0, 0)) rfl ?_
    exact mEnds.ret rfl
  show mEnds [] 18 153 (16, [some (.ref 1), some (.int 0), some (.int (nI N)), none, none], [.int (-4), .ref 1], hM0, 0, 0) _
  refine mEnds.steps 6 (q' := (27, [some (.ref 1), some (.int 0), some (.int (nI N)), some (.int 0), none], [], ((hM0.set 1 (.inr (5, [.ref 2, .int 0, .ref 3, .int 0, .int 0, .int 0, .int 0, .ref 4, .int 0, .int 0, .int 0, .int 0, .int 0, .int 0, .int 0, .int 0, .ref 5, .ref 6, .ref 7, .int (-4), .int 0, .ref 8, .int 0, .ref 9, .ref 10, .ref 11, .ref 12, .ref 13, .int 0]))).set 1 (.inr (5, [.ref 2, .int 0, .ref 3, .int 0, .int 0, .int 0, .int 0, .ref 4, .int 0, .int 0, .int 0, .int 0, .int 0, .int 0, .int 0, .int 0, .ref 5, .ref 6, .ref 7, .int (-4), .int 99, .ref 8, .int 0, .ref 9, .ref 10, .ref 11, .ref 12, .ref 13, .int 0]))), 0, 0)) rfl ?_
  rw [hg_0]
  exact hgo_loop hN N 0 none (by omega)
