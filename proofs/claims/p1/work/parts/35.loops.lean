/-! hours of a house without rooms -/
def hk2 (k : Nat) : mH := hC0.set 2 (.inr (1, [.int 0, .int 0, .int (nI k), .int 0, .int 0, .ref 3, .ref 4, .ref 5, .ref 6, .ref 7, .ref 8, .ref 9]))
theorem hk2_0 : hk2 0 = hC0 := eqH_ok (by decide +kernel)
theorem pass2_all : (List.range 60).all (fun k => eqR (mrun [] 300 17 23 (mentry 23 [.ref 2] (hk2 k))) none (hk2 (k + 1)) 0 0) = true := by decide +kernel
theorem pass2 {k : Nat} (h : k < 60) : mEnds [] 17 23 (mentry 23 [.ref 2] (hk2 k)) (none, hk2 (k + 1), 0, 0) := ⟨300, eqR_ok (List.all_eq_true.mp pass2_all k (List.mem_range.mpr h))⟩
set_option maxRecDepth 100000 in
theorem ph2_loop {N : Nat} (hN : N ≤ 60) : ∀ (m k : Nat), k + m = N → mEnds [] 18 22 (7, [some (.ref 2), some (.int (nI N)), some (.int 0), some (.int (nI k))], [], hk2 k, 0, 0) (some (.int 0), hk2 N, 0, 0)
  | 0, k, h => by
    have e : k = N := by omega
    subst e
    refine mEnds.steps 2 (q' := (9, [some (.ref 2), some (.int (nI k)), some (.int 0), some (.int (nI k))], [.int (nI k), .int (nI k)], hk2 k, 0, 0)) rfl ?_
    refine mEnds.brT (q' := (22, [some (.ref 2), some (.int (nI k)), some (.int 0), some (.int (nI k))], [], hk2 k, 0, 0)) rfl (decide_eq_true (nI_le (Nat.le_refl k) (by omega))) rfl ?_
    refine mEnds.steps 4 (q' := (28, [some (.ref 2), some (.int (nI k)), some (.int 0), some (.int (nI k))], [.int 0], hk2 k, 0, 0)) rfl ?_
    exact mEnds.ret rfl
  | m + 1, k, h => by
    refine mEnds.steps 2 (q' := (9, [some (.ref 2), some (.int (nI N)), some (.int 0), some (.int (nI k))], [.int (nI N), .int (nI k)], hk2 k, 0, 0)) rfl ?_
    refine mEnds.brF (q' := (12, [some (.ref 2), some (.int (nI N)), some (.int 0), some (.int (nI k))], [], hk2 k, 0, 0)) rfl (decide_eq_false (nI_ge (by omega) (by omega))) rfl ?_
    refine mEnds.steps 1 (q' := (13, [some (.ref 2), some (.int (nI N)), some (.int 0), some (.int (nI k))], [.ref 2], hk2 k, 0, 0)) rfl ?_
    refine mEnds.call (d := 17) (y' := 23) (as := [.ref 2]) (q' := (16, [some (.ref 2), some (.int (nI N)), some (.int 0), some (.int (nI k))], [], hk2 k, 0, 0)) (v := none) (hs' := hk2 (k + 1)) (c' := 0) (s' := 0) rfl rfl (pass2 (by omega)) ?_
    refine mEnds.steps 2 (q' := (7, [some (.ref 2), some (.int (nI N)), some (.int 0), some (.int (nI k + 1))], [], hk2 (k + 1), 0, 0)) rfl ?_
    rw [nI_1]
    exact ph2_loop hN m (k + 1) (by omega)
theorem ph2 {N : Nat} (hN : N ≤ 60) : mEnds [] 18 22 (mentry 22 [.ref 2, .int (nI N)] hC0) (some (.int 0), hk2 N, 0, 0) := by
  refine mEnds.steps 5 (q' := (7, [some (.ref 2), some (.int (nI N)), some (.int 0), some (.int (nI 0))], [], hC0, 0, 0)) rfl ?_
  rw [← hk2_0]
  exact ph2_loop hN N 0 (by omega)
def hk44 (k : Nat) : mH := hC0.set 44 (.inr (1, [.int 0, .int 0, .int (nI k), .int 0, .int 0, .ref 45, .ref 46, .ref 47, .ref 48, .ref 49, .ref 50, .ref 51]))
theorem hk44_0 : hk44 0 = hC0 := eqH_ok (by decide +kernel)
theorem pass44_all : (List.range 60).all (fun k => eqR (mrun [] 300 17 23 (mentry 23 [.ref 44] (hk44 k))) none (hk44 (k + 1)) 0 0) = true := by decide +kernel
theorem pass44 {k : Nat} (h : k < 60) : mEnds [] 17 23 (mentry 23 [.ref 44] (hk44 k)) (none, hk44 (k + 1), 0, 0) := ⟨300, eqR_ok (List.all_eq_true.mp pass44_all k (List.mem_range.mpr h))⟩
set_option maxRecDepth 100000 in
theorem ph44_loop {N : Nat} (hN : N ≤ 60) : ∀ (m k : Nat), k + m = N → mEnds [] 18 22 (7, [some (.ref 44), some (.int (nI N)), some (.int 0), some (.int (nI k))], [], hk44 k, 0, 0) (some (.int 0), hk44 N, 0, 0)
  | 0, k, h => by
    have e : k = N := by omega
    subst e
    refine mEnds.steps 2 (q' := (9, [some (.ref 44), some (.int (nI k)), some (.int 0), some (.int (nI k))], [.int (nI k), .int (nI k)], hk44 k, 0, 0)) rfl ?_
    refine mEnds.brT (q' := (22, [some (.ref 44), some (.int (nI k)), some (.int 0), some (.int (nI k))], [], hk44 k, 0, 0)) rfl (decide_eq_true (nI_le (Nat.le_refl k) (by omega))) rfl ?_
    refine mEnds.steps 4 (q' := (28, [some (.ref 44), some (.int (nI k)), some (.int 0), some (.int (nI k))], [.int 0], hk44 k, 0, 0)) rfl ?_
    exact mEnds.ret rfl
  | m + 1, k, h => by
    refine mEnds.steps 2 (q' := (9, [some (.ref 44), some (.int (nI N)), some (.int 0), some (.int (nI k))], [.int (nI N), .int (nI k)], hk44 k, 0, 0)) rfl ?_
    refine mEnds.brF (q' := (12, [some (.ref 44), some (.int (nI N)), some (.int 0), some (.int (nI k))], [], hk44 k, 0, 0)) rfl (decide_eq_false (nI_ge (by omega) (by omega))) rfl ?_
    refine mEnds.steps 1 (q' := (13, [some (.ref 44), some (.int (nI N)), some (.int 0), some (.int (nI k))], [.ref 44], hk44 k, 0, 0)) rfl ?_
    refine mEnds.call (d := 17) (y' := 23) (as := [.ref 44]) (q' := (16, [some (.ref 44), some (.int (nI N)), some (.int 0), some (.int (nI k))], [], hk44 k, 0, 0)) (v := none) (hs' := hk44 (k + 1)) (c' := 0) (s' := 0) rfl rfl (pass44 (by omega)) ?_
    refine mEnds.steps 2 (q' := (7, [some (.ref 44), some (.int (nI N)), some (.int 0), some (.int (nI k + 1))], [], hk44 (k + 1), 0, 0)) rfl ?_
    rw [nI_1]
    exact ph44_loop hN m (k + 1) (by omega)
theorem ph44 {N : Nat} (hN : N ≤ 60) : mEnds [] 18 22 (mentry 22 [.ref 44, .int (nI N)] hC0) (some (.int 0), hk44 N, 0, 0) := by
  refine mEnds.steps 5 (q' := (7, [some (.ref 44), some (.int (nI N)), some (.int 0), some (.int (nI 0))], [], hC0, 0, 0)) rfl ?_
  rw [← hk44_0]
  exact ph44_loop hN N 0 (by omega)
def hm0 (k : Nat) : mH := hM0.set 2 (.inl (0, (List.replicate 312 0).set 49 (nI k)))
theorem hm0_0 : hm0 0 = hM0 := eqH_ok (by decide +kernel)
theorem go0_all : (List.range 60).all (fun k => eqR (mrun [] 400 17 134 (mentry 134 [.ref 1, .int 0] (hm0 k))) none (hm0 (k + 1)) 0 0) = true := by decide +kernel
theorem go0 {k : Nat} (h : k < 60) : mEnds [] 17 134 (mentry 134 [.ref 1, .int 0] (hm0 k)) (none, hm0 (k + 1), 0, 0) := ⟨400, eqR_ok (List.all_eq_true.mp go0_all k (List.mem_range.mpr h))⟩
def hg (k : Nat) (w : Int32) : mH := (hM0.set 2 (.inl (0, (List.replicate 312 0).set 257 (nI k)))).set 1 (.inr (5, [.ref 2, .int 0, .ref 3, .int 0, .int 0, .int 0, .int 0, .ref 4, .int 0, .int 0, .int 0, .int 0, .int 0, .int 0, .int 0, .int 0, .ref 5, .ref 6, .ref 7, .int (-4), .int w, .ref 8, .int 0, .ref 9, .ref 10, .ref 11, .ref 12, .ref 13, .int 0]))
theorem goT_all : (List.range 60).all (fun k => eqR (mrun [] 400 16 134 (mentry 134 [.ref 1, .int 208] (hg k (bif Nat.beq k 0 then 99 else (-4))))) none (hg (k + 1) (bif Nat.beq k 0 then 99 else (-4))) 0 0) = true := by decide +kernel
theorem goT {k : Nat} (h : k < 60) : mEnds [] 16 134 (mentry 134 [.ref 1, .int 208] (hg k (bif Nat.beq k 0 then 99 else (-4)))) (none, hg (k + 1) (bif Nat.beq k 0 then 99 else (-4)), 0, 0) := ⟨400, eqR_ok (List.all_eq_true.mp goT_all k (List.mem_range.mpr h))⟩
set_option maxRecDepth 100000 in
theorem cp_0_208 : mEnds [] 10 152 (mentry 152 [.ref 1, .int 0, .int 208] hM0) (none, hM0, 0, 0) := ⟨900, eqR_ok (by decide +kernel)⟩
set_option maxRecDepth 100000 in
theorem cp_0_156 : mEnds [] 10 152 (mentry 152 [.ref 1, .int 0, .int 156] hM0) (none, hM0, 0, 0) := ⟨900, eqR_ok (by decide +kernel)⟩
set_option maxRecDepth 100000 in
theorem cp_0_52 : mEnds [] 10 152 (mentry 152 [.ref 1, .int 0, .int 52] hM0) (none, hM0, 0, 0) := ⟨900, eqR_ok (by decide +kernel)⟩
set_option maxRecDepth 100000 in
theorem cp_0_104 : mEnds [] 10 152 (mentry 152 [.ref 1, .int 0, .int 104] hM0) (none, hM0, 0, 0) := ⟨900, eqR_ok (by decide +kernel)⟩
set_option maxRecDepth 100000 in
theorem cpn : mEnds [] 10 109 (mentry 109 [.ref 1] hC0) (some (.ref 44), hC0, 0, 0) := ⟨200, eqR_ok (by decide +kernel)⟩
