/-! sheet on new objects -/
theorem set_same {hs : mH} {i : Nat} {x : mE} (h : hs[i]? = some x) : hs.set i x = hs := by
  refine List.ext_getElem? fun j => ?_
  rw [List.getElem?_set]
  split
  · next e =>
    subst e
    rw [if_pos (List.getElem?_eq_some_iff.mp h).1, h]
  · rfl
def shC0 (x2 : Int32) (N : Nat) : mH := hC0.set 124 (.inr (2, [.int x2, .int (nI N), .ref 125]))
set_option maxRecDepth 100000 in
theorem rl0 {N : Nat} (hN : N ≤ 40) (x2 : Int32) : ∀ (m k : Nat), k + m = N → mEnds [] 19 31 (12, [some (.ref 124), some (.int x2), some (.int (nI N)), some (.int (nI k))], [], shC0 x2 N, 0, 0) (none, shC0 x2 N, 0, 0)
  | 0, k, h => by
    have e : k = N := by omega
    subst e
    refine mEnds.steps 2 (q' := (14, [some (.ref 124), some (.int x2), some (.int (nI k)), some (.int (nI k))], [.int (nI k), .int (nI k)], shC0 x2 k, 0, 0)) rfl ?_
    refine mEnds.brT (q' := (36, [some (.ref 124), some (.int x2), some (.int (nI k)), some (.int (nI k))], [], shC0 x2 k, 0, 0)) rfl (decide_eq_true (nI_le (Nat.le_refl k) (by omega))) rfl ?_
    exact mEnds.ret rfl
  | m + 1, k, h => by
    refine mEnds.steps 2 (q' := (14, [some (.ref 124), some (.int x2), some (.int (nI N)), some (.int (nI k))], [.int (nI N), .int (nI k)], shC0 x2 N, 0, 0)) rfl ?_
    refine mEnds.brF (q' := (17, [some (.ref 124), some (.int x2), some (.int (nI N)), some (.int (nI k))], [], shC0 x2 N, 0, 0)) rfl (decide_eq_false (nI_ge (by omega) (by omega))) rfl ?_
    refine mEnds.steps 2 (q' := (20, [some (.ref 124), some (.int x2), some (.int (nI N)), some (.int (nI k))], [.int 40, .int (nI k)], shC0 x2 N, 0, 0)) rfl ?_
    refine mEnds.brF (q' := (23, [some (.ref 124), some (.int x2), some (.int (nI N)), some (.int (nI k))], [], shC0 x2 N, 0, 0)) rfl (decide_eq_false (nI_ge (a := k) (b := 40) (by omega) (by omega))) rfl ?_
    refine mEnds.steps 4 (q' := (29, [some (.ref 124), some (.int x2), some (.int (nI N)), some (.int (nI k))], [.int 0, .int (nI k), .ref 125], shC0 x2 N, 0, 0)) rfl ?_
    have e : (shC0 x2 N).set 125 (.inl (0, (List.replicate 40 0).set k 0)) = shC0 x2 N := by rw [List.set_replicate_self]; exact set_same rfl
    refine mEnds.step (q' := (30, [some (.ref 124), some (.int x2), some (.int (nI N)), some (.int (nI k))], [], (shC0 x2 N).set 125 (.inl (0, (List.replicate 40 0).set k 0)), 0, 0)) ((oI_eq (midx_of (N := 40) (by omega) (by decide))).trans rfl) rfl ?_
    rw [e]
    refine mEnds.steps 2 (q' := (12, [some (.ref 124), some (.int x2), some (.int (nI N)), some (.int (nI k + 1))], [], shC0 x2 N, 0, 0)) rfl ?_
    rw [nI_1]
    exact rl0 hN x2 m (k + 1) (by omega)
set_option maxRecDepth 100000 in
theorem rn0 {N : Nat} (hN : N ≤ 40) (x2 : Int32) : mEnds [] 19 31 (mentry 31 [.ref 124, .int x2, .int (nI N)] hC0) (none, shC0 x2 N, 0, 0) := by
  refine mEnds.steps 8 (q' := (12, [some (.ref 124), some (.int x2), some (.int (nI N)), some (.int (nI 0))], [], shC0 x2 N, 0, 0)) rfl ?_
  exact rl0 hN x2 N 0 (by omega)
def shM0 (x2 : Int32) (N : Nat) : mH := (hM0.set 11 (.inl (0, [x2, (-4), (-4), (-4)]))).set 12 (.inl (0, [(nI N), 0, 0, 0]))
set_option maxRecDepth 100000 in
theorem ml0 (x2 : Int32) (N : Nat) : ∀ (m k : Nat), k + m = 40 → mEnds [] 20 179 (56, [some (.ref 1), some (.int 0), some (.int x2), some (.int (nI N)), some (.int (nI k))], [], shM0 x2 N, 0, 0) (some (.int 1), shM0 x2 N, 0, 0)
  | 0, k, h => by
    have e : k = 40 := by omega
    subst e
    refine mEnds.steps 3 (q' := (82, [some (.ref 1), some (.int 0), some (.int x2), some (.int (nI N)), some (.int (nI 40))], [], shM0 x2 N, 0, 0)) rfl ?_
    refine mEnds.steps 1 (q' := (83, [some (.ref 1), some (.int 0), some (.int x2), some (.int (nI N)), some (.int (nI 40))], [.int 1], shM0 x2 N, 0, 0)) rfl ?_
    exact mEnds.ret rfl
  | m + 1, k, h => by
    refine mEnds.steps 2 (q' := (60, [some (.ref 1), some (.int 0), some (.int x2), some (.int (nI N)), some (.int (nI k))], [.int 40, .int (nI k)], shM0 x2 N, 0, 0)) rfl ?_
    refine mEnds.brF (q' := (63, [some (.ref 1), some (.int 0), some (.int x2), some (.int (nI N)), some (.int (nI k))], [], shM0 x2 N, 0, 0)) rfl (decide_eq_false (nI_ge (a := k) (b := 40) (by omega) (by omega))) rfl ?_
    refine mEnds.steps 8 (q' := (75, [some (.ref 1), some (.int 0), some (.int x2), some (.int (nI N)), some (.int (nI k))], [.int 0, .int (nI 0 + nI k), .ref 13], shM0 x2 N, 0, 0)) rfl ?_
    rw [nI_add]
    have e : (shM0 x2 N).set 13 (.inl (0, (List.replicate 160 0).set (0 + k) 0)) = shM0 x2 N := by rw [List.set_replicate_self]; exact set_same rfl
    refine mEnds.step (q' := (76, [some (.ref 1), some (.int 0), some (.int x2), some (.int (nI N)), some (.int (nI k))], [], (shM0 x2 N).set 13 (.inl (0, (List.replicate 160 0).set (0 + k) 0)), 0, 0)) ((oI_eq (midx_of (N := 160) (by omega) (by decide))).trans rfl) rfl ?_
    rw [e]
    refine mEnds.steps 2 (q' := (56, [some (.ref 1), some (.int 0), some (.int x2), some (.int (nI N)), some (.int (nI k + 1))], [], shM0 x2 N, 0, 0)) rfl ?_
    rw [nI_1]
    exact ml0 x2 N m (k + 1) (by omega)
def shC1 (x2 : Int32) (N : Nat) : mH := hC0.set 126 (.inr (2, [.int x2, .int (nI N), .ref 127]))
set_option maxRecDepth 100000 in
theorem rl1 {N : Nat} (hN : N ≤ 40) (x2 : Int32) : ∀ (m k : Nat), k + m = N → mEnds [] 19 31 (12, [some (.ref 126), some (.int x2), some (.int (nI N)), some (.int (nI k))], [], shC1 x2 N, 0, 0) (none, shC1 x2 N, 0, 0)
  | 0, k, h => by
    have e : k = N := by omega
    subst e
    refine mEnds.steps 2 (q' := (14, [some (.ref 126), some (.int x2), some (.int (nI k)), some (.int (nI k))], [.int (nI k), .int (nI k)], shC1 x2 k, 0, 0)) rfl ?_
    refine mEnds.brT (q' := (36, [some (.ref 126), some (.int x2), some (.int (nI k)), some (.int (nI k))], [], shC1 x2 k, 0, 0)) rfl (decide_eq_true (nI_le (Nat.le_refl k) (by omega))) rfl ?_
    exact mEnds.ret rfl
  | m + 1, k, h => by
    refine mEnds.steps 2 (q' := (14, [some (.ref 126), some (.int x2), some (.int (nI N)), some (.int (nI k))], [.int (nI N), .int (nI k)], shC1 x2 N, 0, 0)) rfl ?_
    refine mEnds.brF (q' := (17, [some (.ref 126), some (.int x2), some (.int (nI N)), some (.int (nI k))], [], shC1 x2 N, 0, 0)) rfl (decide_eq_false (nI_ge (by omega) (by omega))) rfl ?_
    refine mEnds.steps 2 (q' := (20, [some (.ref 126), some (.int x2), some (.int (nI N)), some (.int (nI k))], [.int 40, .int (nI k)], shC1 x2 N, 0, 0)) rfl ?_
    refine mEnds.brF (q' := (23, [some (.ref 126), some (.int x2), some (.int (nI N)), some (.int (nI k))], [], shC1 x2 N, 0, 0)) rfl (decide_eq_false (nI_ge (a := k) (b := 40) (by omega) (by omega))) rfl ?_
    refine mEnds.steps 4 (q' := (29, [some (.ref 126), some (.int x2), some (.int (nI N)), some (.int (nI k))], [.int 0, .int (nI k), .ref 127], shC1 x2 N, 0, 0)) rfl ?_
    have e : (shC1 x2 N).set 127 (.inl (0, (List.replicate 40 0).set k 0)) = shC1 x2 N := by rw [List.set_replicate_self]; exact set_same rfl
    refine mEnds.step (q' := (30, [some (.ref 126), some (.int x2), some (.int (nI N)), some (.int (nI k))], [], (shC1 x2 N).set 127 (.inl (0, (List.replicate 40 0).set k 0)), 0, 0)) ((oI_eq (midx_of (N := 40) (by omega) (by decide))).trans rfl) rfl ?_
    rw [e]
    refine mEnds.steps 2 (q' := (12, [some (.ref 126), some (.int x2), some (.int (nI N)), some (.int (nI k + 1))], [], shC1 x2 N, 0, 0)) rfl ?_
    rw [nI_1]
    exact rl1 hN x2 m (k + 1) (by omega)
set_option maxRecDepth 100000 in
theorem rn1 {N : Nat} (hN : N ≤ 40) (x2 : Int32) : mEnds [] 19 31 (mentry 31 [.ref 126, .int x2, .int (nI N)] hC0) (none, shC1 x2 N, 0, 0) := by
  refine mEnds.steps 8 (q' := (12, [some (.ref 126), some (.int x2), some (.int (nI N)), some (.int (nI 0))], [], shC1 x2 N, 0, 0)) rfl ?_
  exact rl1 hN x2 N 0 (by omega)
def shM1 (x2 : Int32) (N : Nat) : mH := (hM0.set 11 (.inl (0, [(-4), x2, (-4), (-4)]))).set 12 (.inl (0, [0, (nI N), 0, 0]))
set_option maxRecDepth 100000 in
theorem ml1 (x2 : Int32) (N : Nat) : ∀ (m k : Nat), k + m = 40 → mEnds [] 20 179 (56, [some (.ref 1), some (.int 1), some (.int x2), some (.int (nI N)), some (.int (nI k))], [], shM1 x2 N, 0, 0) (some (.int 1), shM1 x2 N, 0, 0)
  | 0, k, h => by
    have e : k = 40 := by omega
    subst e
    refine mEnds.steps 3 (q' := (82, [some (.ref 1), some (.int 1), some (.int x2), some (.int (nI N)), some (.int (nI 40))], [], shM1 x2 N, 0, 0)) rfl ?_
    refine mEnds.steps 1 (q' := (83, [some (.ref 1), some (.int 1), some (.int x2), some (.int (nI N)), some (.int (nI 40))], [.int 1], shM1 x2 N, 0, 0)) rfl ?_
    exact mEnds.ret rfl
  | m + 1, k, h => by
    refine mEnds.steps 2 (q' := (60, [some (.ref 1), some (.int 1), some (.int x2), some (.int (nI N)), some (.int (nI k))], [.int 40, .int (nI k)], shM1 x2 N, 0, 0)) rfl ?_
    refine mEnds.brF (q' := (63, [some (.ref 1), some (.int 1), some (.int x2), some (.int (nI N)), some (.int (nI k))], [], shM1 x2 N, 0, 0)) rfl (decide_eq_false (nI_ge (a := k) (b := 40) (by omega) (by omega))) rfl ?_
    refine mEnds.steps 8 (q' := (75, [some (.ref 1), some (.int 1), some (.int x2), some (.int (nI N)), some (.int (nI k))], [.int 0, .int (nI 40 + nI k), .ref 13], shM1 x2 N, 0, 0)) rfl ?_
    rw [nI_add]
    have e : (shM1 x2 N).set 13 (.inl (0, (List.replicate 160 0).set (40 + k) 0)) = shM1 x2 N := by rw [List.set_replicate_self]; exact set_same rfl
    refine mEnds.step (q' := (76, [some (.ref 1), some (.int 1), some (.int x2), some (.int (nI N)), some (.int (nI k))], [], (shM1 x2 N).set 13 (.inl (0, (List.replicate 160 0).set (40 + k) 0)), 0, 0)) ((oI_eq (midx_of (N := 160) (by omega) (by decide))).trans rfl) rfl ?_
    rw [e]
    refine mEnds.steps 2 (q' := (56, [some (.ref 1), some (.int 1), some (.int x2), some (.int (nI N)), some (.int (nI k + 1))], [], shM1 x2 N, 0, 0)) rfl ?_
    rw [nI_1]
    exact ml1 x2 N m (k + 1) (by omega)
def shC2 (x2 : Int32) (N : Nat) : mH := hC0.set 128 (.inr (2, [.int x2, .int (nI N), .ref 129]))
set_option maxRecDepth 100000 in
theorem rl2 {N : Nat} (hN : N ≤ 40) (x2 : Int32) : ∀ (m k : Nat), k + m = N → mEnds [] 19 31 (12, [some (.ref 128), some (.int x2), some (.int (nI N)), some (.int (nI k))], [], shC2 x2 N, 0, 0) (none, shC2 x2 N, 0, 0)
  | 0, k, h => by
    have e : k = N := by omega
    subst e
    refine mEnds.steps 2 (q' := (14, [some (.ref 128), some (.int x2), some (.int (nI k)), some (.int (nI k))], [.int (nI k), .int (nI k)], shC2 x2 k, 0, 0)) rfl ?_
    refine mEnds.brT (q' := (36, [some (.ref 128), some (.int x2), some (.int (nI k)), some (.int (nI k))], [], shC2 x2 k, 0, 0)) rfl (decide_eq_true (nI_le (Nat.le_refl k) (by omega))) rfl ?_
    exact mEnds.ret rfl
  | m + 1, k, h => by
    refine mEnds.steps 2 (q' := (14, [some (.ref 128), some (.int x2), some (.int (nI N)), some (.int (nI k))], [.int (nI N), .int (nI k)], shC2 x2 N, 0, 0)) rfl ?_
    refine mEnds.brF (q' := (17, [some (.ref 128), some (.int x2), some (.int (nI N)), some (.int (nI k))], [], shC2 x2 N, 0, 0)) rfl (decide_eq_false (nI_ge (by omega) (by omega))) rfl ?_
    refine mEnds.steps 2 (q' := (20, [some (.ref 128), some (.int x2), some (.int (nI N)), some (.int (nI k))], [.int 40, .int (nI k)], shC2 x2 N, 0, 0)) rfl ?_
    refine mEnds.brF (q' := (23, [some (.ref 128), some (.int x2), some (.int (nI N)), some (.int (nI k))], [], shC2 x2 N, 0, 0)) rfl (decide_eq_false (nI_ge (a := k) (b := 40) (by omega) (by omega))) rfl ?_
    refine mEnds.steps 4 (q' := (29, [some (.ref 128), some (.int x2), some (.int (nI N)), some (.int (nI k))], [.int 0, .int (nI k), .ref 129], shC2 x2 N, 0, 0)) rfl ?_
    have e : (shC2 x2 N).set 129 (.inl (0, (List.replicate 40 0).set k 0)) = shC2 x2 N := by rw [List.set_replicate_self]; exact set_same rfl
    refine mEnds.step (q' := (30, [some (.ref 128), some (.int x2), some (.int (nI N)), some (.int (nI k))], [], (shC2 x2 N).set 129 (.inl (0, (List.replicate 40 0).set k 0)), 0, 0)) ((oI_eq (midx_of (N := 40) (by omega) (by decide))).trans rfl) rfl ?_
    rw [e]
    refine mEnds.steps 2 (q' := (12, [some (.ref 128), some (.int x2), some (.int (nI N)), some (.int (nI k + 1))], [], shC2 x2 N, 0, 0)) rfl ?_
    rw [nI_1]
    exact rl2 hN x2 m (k + 1) (by omega)
set_option maxRecDepth 100000 in
theorem rn2 {N : Nat} (hN : N ≤ 40) (x2 : Int32) : mEnds [] 19 31 (mentry 31 [.ref 128, .int x2, .int (nI N)] hC0) (none, shC2 x2 N, 0, 0) := by
  refine mEnds.steps 8 (q' := (12, [some (.ref 128), some (.int x2), some (.int (nI N)), some (.int (nI 0))], [], shC2 x2 N, 0, 0)) rfl ?_
  exact rl2 hN x2 N 0 (by omega)
def shM2 (x2 : Int32) (N : Nat) : mH := (hM0.set 11 (.inl (0, [(-4), (-4), x2, (-4)]))).set 12 (.inl (0, [0, 0, (nI N), 0]))
set_option maxRecDepth 100000 in
theorem ml2 (x2 : Int32) (N : Nat) : ∀ (m k : Nat), k + m = 40 → mEnds [] 20 179 (56, [some (.ref 1), some (.int 2), some (.int x2), some (.int (nI N)), some (.int (nI k))], [], shM2 x2 N, 0, 0) (some (.int 1), shM2 x2 N, 0, 0)
  | 0, k, h => by
    have e : k = 40 := by omega
    subst e
    refine mEnds.steps 3 (q' := (82, [some (.ref 1), some (.int 2), some (.int x2), some (.int (nI N)), some (.int (nI 40))], [], shM2 x2 N, 0, 0)) rfl ?_
    refine mEnds.steps 1 (q' := (83, [some (.ref 1), some (.int 2), some (.int x2), some (.int (nI N)), some (.int (nI 40))], [.int 1], shM2 x2 N, 0, 0)) rfl ?_
    exact mEnds.ret rfl
  | m + 1, k, h => by
    refine mEnds.steps 2 (q' := (60, [some (.ref 1), some (.int 2), some (.int x2), some (.int (nI N)), some (.int (nI k))], [.int 40, .int (nI k)], shM2 x2 N, 0, 0)) rfl ?_
    refine mEnds.brF (q' := (63, [some (.ref 1), some (.int 2), some (.int x2), some (.int (nI N)), some (.int (nI k))], [], shM2 x2 N, 0, 0)) rfl (decide_eq_false (nI_ge (a := k) (b := 40) (by omega) (by omega))) rfl ?_
    refine mEnds.steps 8 (q' := (75, [some (.ref 1), some (.int 2), some (.int x2), some (.int (nI N)), some (.int (nI k))], [.int 0, .int (nI 80 + nI k), .ref 13], shM2 x2 N, 0, 0)) rfl ?_
    rw [nI_add]
    have e : (shM2 x2 N).set 13 (.inl (0, (List.replicate 160 0).set (80 + k) 0)) = shM2 x2 N := by rw [List.set_replicate_self]; exact set_same rfl
    refine mEnds.step (q' := (76, [some (.ref 1), some (.int 2), some (.int x2), some (.int (nI N)), some (.int (nI k))], [], (shM2 x2 N).set 13 (.inl (0, (List.replicate 160 0).set (80 + k) 0)), 0, 0)) ((oI_eq (midx_of (N := 160) (by omega) (by decide))).trans rfl) rfl ?_
    rw [e]
    refine mEnds.steps 2 (q' := (56, [some (.ref 1), some (.int 2), some (.int x2), some (.int (nI N)), some (.int (nI k + 1))], [], shM2 x2 N, 0, 0)) rfl ?_
    rw [nI_1]
    exact ml2 x2 N m (k + 1) (by omega)
def shC3 (x2 : Int32) (N : Nat) : mH := hC0.set 130 (.inr (2, [.int x2, .int (nI N), .ref 131]))
set_option maxRecDepth 100000 in
theorem rl3 {N : Nat} (hN : N ≤ 40) (x2 : Int32) : ∀ (m k : Nat), k + m = N → mEnds [] 19 31 (12, [some (.ref 130), some (.int x2), some (.int (nI N)), some (.int (nI k))], [], shC3 x2 N, 0, 0) (none, shC3 x2 N, 0, 0)
  | 0, k, h => by
    have e : k = N := by omega
    subst e
    refine mEnds.steps 2 (q' := (14, [some (.ref 130), some (.int x2), some (.int (nI k)), some (.int (nI k))], [.int (nI k), .int (nI k)], shC3 x2 k, 0, 0)) rfl ?_
    refine mEnds.brT (q' := (36, [some (.ref 130), some (.int x2), some (.int (nI k)), some (.int (nI k))], [], shC3 x2 k, 0, 0)) rfl (decide_eq_true (nI_le (Nat.le_refl k) (by omega))) rfl ?_
    exact mEnds.ret rfl
  | m + 1, k, h => by
    refine mEnds.steps 2 (q' := (14, [some (.ref 130), some (.int x2), some (.int (nI N)), some (.int (nI k))], [.int (nI N), .int (nI k)], shC3 x2 N, 0, 0)) rfl ?_
    refine mEnds.brF (q' := (17, [some (.ref 130), some (.int x2), some (.int (nI N)), some (.int (nI k))], [], shC3 x2 N, 0, 0)) rfl (decide_eq_false (nI_ge (by omega) (by omega))) rfl ?_
    refine mEnds.steps 2 (q' := (20, [some (.ref 130), some (.int x2), some (.int (nI N)), some (.int (nI k))], [.int 40, .int (nI k)], shC3 x2 N, 0, 0)) rfl ?_
    refine mEnds.brF (q' := (23, [some (.ref 130), some (.int x2), some (.int (nI N)), some (.int (nI k))], [], shC3 x2 N, 0, 0)) rfl (decide_eq_false (nI_ge (a := k) (b := 40) (by omega) (by omega))) rfl ?_
    refine mEnds.steps 4 (q' := (29, [some (.ref 130), some (.int x2), some (.int (nI N)), some (.int (nI k))], [.int 0, .int (nI k), .ref 131], shC3 x2 N, 0, 0)) rfl ?_
    have e : (shC3 x2 N).set 131 (.inl (0, (List.replicate 40 0).set k 0)) = shC3 x2 N := by rw [List.set_replicate_self]; exact set_same rfl
    refine mEnds.step (q' := (30, [some (.ref 130), some (.int x2), some (.int (nI N)), some (.int (nI k))], [], (shC3 x2 N).set 131 (.inl (0, (List.replicate 40 0).set k 0)), 0, 0)) ((oI_eq (midx_of (N := 40) (by omega) (by decide))).trans rfl) rfl ?_
    rw [e]
    refine mEnds.steps 2 (q' := (12, [some (.ref 130), some (.int x2), some (.int (nI N)), some (.int (nI k + 1))], [], shC3 x2 N, 0, 0)) rfl ?_
    rw [nI_1]
    exact rl3 hN x2 m (k + 1) (by omega)
set_option maxRecDepth 100000 in
theorem rn3 {N : Nat} (hN : N ≤ 40) (x2 : Int32) : mEnds [] 19 31 (mentry 31 [.ref 130, .int x2, .int (nI N)] hC0) (none, shC3 x2 N, 0, 0) := by
  refine mEnds.steps 8 (q' := (12, [some (.ref 130), some (.int x2), some (.int (nI N)), some (.int (nI 0))], [], shC3 x2 N, 0, 0)) rfl ?_
  exact rl3 hN x2 N 0 (by omega)
def shM3 (x2 : Int32) (N : Nat) : mH := (hM0.set 11 (.inl (0, [(-4), (-4), (-4), x2]))).set 12 (.inl (0, [0, 0, 0, (nI N)]))
set_option maxRecDepth 100000 in
theorem ml3 (x2 : Int32) (N : Nat) : ∀ (m k : Nat), k + m = 40 → mEnds [] 20 179 (56, [some (.ref 1), some (.int 3), some (.int x2), some (.int (nI N)), some (.int (nI k))], [], shM3 x2 N, 0, 0) (some (.int 1), shM3 x2 N, 0, 0)
  | 0, k, h => by
    have e : k = 40 := by omega
    subst e
    refine mEnds.steps 3 (q' := (82, [some (.ref 1), some (.int 3), some (.int x2), some (.int (nI N)), some (.int (nI 40))], [], shM3 x2 N, 0, 0)) rfl ?_
    refine mEnds.steps 1 (q' := (83, [some (.ref 1), some (.int 3), some (.int x2), some (.int (nI N)), some (.int (nI 40))], [.int 1], shM3 x2 N, 0, 0)) rfl ?_
    exact mEnds.ret rfl
  | m + 1, k, h => by
    refine mEnds.steps 2 (q' := (60, [some (.ref 1), some (.int 3), some (.int x2), some (.int (nI N)), some (.int (nI k))], [.int 40, .int (nI k)], shM3 x2 N, 0, 0)) rfl ?_
    refine mEnds.brF (q' := (63, [some (.ref 1), some (.int 3), some (.int x2), some (.int (nI N)), some (.int (nI k))], [], shM3 x2 N, 0, 0)) rfl (decide_eq_false (nI_ge (a := k) (b := 40) (by omega) (by omega))) rfl ?_
    refine mEnds.steps 8 (q' := (75, [some (.ref 1), some (.int 3), some (.int x2), some (.int (nI N)), some (.int (nI k))], [.int 0, .int (nI 120 + nI k), .ref 13], shM3 x2 N, 0, 0)) rfl ?_
    rw [nI_add]
    have e : (shM3 x2 N).set 13 (.inl (0, (List.replicate 160 0).set (120 + k) 0)) = shM3 x2 N := by rw [List.set_replicate_self]; exact set_same rfl
    refine mEnds.step (q' := (76, [some (.ref 1), some (.int 3), some (.int x2), some (.int (nI N)), some (.int (nI k))], [], (shM3 x2 N).set 13 (.inl (0, (List.replicate 160 0).set (120 + k) 0)), 0, 0)) ((oI_eq (midx_of (N := 160) (by omega) (by decide))).trans rfl) rfl ?_
    rw [e]
    refine mEnds.steps 2 (q' := (56, [some (.ref 1), some (.int 3), some (.int x2), some (.int (nI N)), some (.int (nI k + 1))], [], shM3 x2 N, 0, 0)) rfl ?_
    rw [nI_1]
    exact ml3 x2 N m (k + 1) (by omega)
set_option maxRecDepth 100000 in
theorem c34_T (x1 x2 x3 : Int32) (f0 : decide (x1 < 0) = true) : ∃ hs', mEnds [] 20 100 (mentry 100 [.ref 1, .int x1, .int x2, .int x3] hC0) (some (.int (-1)), hs', 0, 0) := by
  refine ⟨hC0, ?_⟩
  refine mEnds.steps 3 (q' := (3, [some (.ref 1), some (.int x1), some (.int x2), some (.int x3)], [.int 3, .int 0, .int x1], hC0, 0, 0)) rfl ?_
  refine mEnds.call (d := 19) (y' := 105) (as := [.int x1, .int 0, .int 3]) (q' := (6, [some (.ref 1), some (.int x1), some (.int x2), some (.int x3)], [], hC0, 0, 0)) (v := some (.int 0)) (hs' := hC0) (c' := 0) (s' := 0) rfl rfl ?_ ?_
  · refine mEnds.steps 2 (q' := (2, [some (.int x1), some (.int 0), some (.int 3)], [.int 0, .int x1], hC0, 0, 0)) rfl ?_
    refine mEnds.brT (q' := (14, [some (.int x1), some (.int 0), some (.int 3)], [], hC0, 0, 0)) rfl f0 rfl ?_
    refine mEnds.steps 1 (q' := (15, [some (.int x1), some (.int 0), some (.int 3)], [.int 0], hC0, 0, 0)) rfl ?_
    exact mEnds.ret rfl
  show mEnds [] 20 100 (6, [some (.ref 1), some (.int x1), some (.int x2), some (.int x3)], [.int 0], hC0, 0, 0) _
  refine mEnds.steps 2 (q' := (25, [some (.ref 1), some (.int x1), some (.int x2), some (.int x3)], [.int (-1)], hC0, 0, 0)) rfl ?_
  exact mEnds.ret rfl
set_option maxRecDepth 100000 in
theorem m34_T (x1 x2 x3 : Int32) (f0 : decide (x1 < 0) = true) : ∃ hs', mEnds [] 20 179 (mentry 179 [.ref 1, .int x1, .int x2, .int x3] hM0) (some (.int (-1)), hs', 0, 0) := by
  refine ⟨hM0, ?_⟩
  refine mEnds.steps 4 (q' := (6, [some (.ref 1), some (.int x1), some (.int x2), some (.int x3), none], [.long 3, .long 0, .long x1.toInt64], hM0, 0, 0)) rfl ?_
  refine mEnds.call (d := 19) (y' := 111) (as := [.long x1.toInt64, .long 0, .long 3]) (q' := (9, [some (.ref 1), some (.int x1), some (.int x2), some (.int x3), none], [], hM0, 0, 0)) (v := some (.int 0)) (hs' := hM0) (c' := 0) (s' := 0) rfl rfl ?_ ?_
  · refine mEnds.steps 3 (q' := (3, [some (.long x1.toInt64), none, some (.long 0), none, some (.long 3), none], [.int (lg_cmp x1.toInt64 0)], hM0, 0, 0)) rfl ?_
    refine mEnds.brT (q' := (17, [some (.long x1.toInt64), none, some (.long 0), none, some (.long 3), none], [], hM0, 0, 0)) rfl (lgc_lt (c := 0) (by decide) f0) rfl ?_
    refine mEnds.steps 1 (q' := (18, [some (.long x1.toInt64), none, some (.long 0), none, some (.long 3), none], [.int 0], hM0, 0, 0)) rfl ?_
    exact mEnds.ret rfl
  show mEnds [] 20 179 (9, [some (.ref 1), some (.int x1), some (.int x2), some (.int x3), none], [.int 0], hM0, 0, 0) _
  refine mEnds.steps 2 (q' := (31, [some (.ref 1), some (.int x1), some (.int x2), some (.int x3), none], [.int (-1)], hM0, 0, 0)) rfl ?_
  exact mEnds.ret rfl
set_option maxRecDepth 100000 in
theorem c34_FT (x1 x2 x3 : Int32) (f0 : decide (x1 < 0) = false) (f1 : decide (3 < x1) = true) : ∃ hs', mEnds [] 20 100 (mentry 100 [.ref 1, .int x1, .int x2, .int x3] hC0) (some (.int (-1)), hs', 0, 0) := by
  refine ⟨hC0, ?_⟩
  refine mEnds.steps 3 (q' := (3, [some (.ref 1), some (.int x1), some (.int x2), some (.int x3)], [.int 3, .int 0, .int x1], hC0, 0, 0)) rfl ?_
  refine mEnds.call (d := 19) (y' := 105) (as := [.int x1, .int 0, .int 3]) (q' := (6, [some (.ref 1), some (.int x1), some (.int x2), some (.int x3)], [], hC0, 0, 0)) (v := some (.int 0)) (hs' := hC0) (c' := 0) (s' := 0) rfl rfl ?_ ?_
  · refine mEnds.steps 2 (q' := (2, [some (.int x1), some (.int 0), some (.int 3)], [.int 0, .int x1], hC0, 0, 0)) rfl ?_
    refine mEnds.brF (q' := (5, [some (.int x1), some (.int 0), some (.int 3)], [], hC0, 0, 0)) rfl f0 rfl ?_
    refine mEnds.steps 2 (q' := (7, [some (.int x1), some (.int 0), some (.int 3)], [.int 3, .int x1], hC0, 0, 0)) rfl ?_
    refine mEnds.brT (q' := (14, [some (.int x1), some (.int 0), some (.int 3)], [], hC0, 0, 0)) rfl f1 rfl ?_
    refine mEnds.steps 1 (q' := (15, [some (.int x1), some (.int 0), some (.int 3)], [.int 0], hC0, 0, 0)) rfl ?_
    exact mEnds.ret rfl
  show mEnds [] 20 100 (6, [some (.ref 1), some (.int x1), some (.int x2), some (.int x3)], [.int 0], hC0, 0, 0) _
  refine mEnds.steps 2 (q' := (25, [some (.ref 1), some (.int x1), some (.int x2), some (.int x3)], [.int (-1)], hC0, 0, 0)) rfl ?_
  exact mEnds.ret rfl
set_option maxRecDepth 100000 in
theorem m34_FT (x1 x2 x3 : Int32) (f0 : decide (x1 < 0) = false) (f1 : decide (3 < x1) = true) : ∃ hs', mEnds [] 20 179 (mentry 179 [.ref 1, .int x1, .int x2, .int x3] hM0) (some (.int (-1)), hs', 0, 0) := by
  refine ⟨hM0, ?_⟩
  refine mEnds.steps 4 (q' := (6, [some (.ref 1), some (.int x1), some (.int x2), some (.int x3), none], [.long 3, .long 0, .long x1.toInt64], hM0, 0, 0)) rfl ?_
  refine mEnds.call (d := 19) (y' := 111) (as := [.long x1.toInt64, .long 0, .long 3]) (q' := (9, [some (.ref 1), some (.int x1), some (.int x2), some (.int x3), none], [], hM0, 0, 0)) (v := some (.int 0)) (hs' := hM0) (c' := 0) (s' := 0) rfl rfl ?_ ?_
  · refine mEnds.steps 3 (q' := (3, [some (.long x1.toInt64), none, some (.long 0), none, some (.long 3), none], [.int (lg_cmp x1.toInt64 0)], hM0, 0, 0)) rfl ?_
    refine mEnds.brF (q' := (6, [some (.long x1.toInt64), none, some (.long 0), none, some (.long 3), none], [], hM0, 0, 0)) rfl (lgc_lt (c := 0) (by decide) f0) rfl ?_
    refine mEnds.steps 3 (q' := (10, [some (.long x1.toInt64), none, some (.long 0), none, some (.long 3), none], [.int (lg_cmp x1.toInt64 3)], hM0, 0, 0)) rfl ?_
    refine mEnds.brT (q' := (17, [some (.long x1.toInt64), none, some (.long 0), none, some (.long 3), none], [], hM0, 0, 0)) rfl (lgc_gt (c := 3) (by decide) f1) rfl ?_
    refine mEnds.steps 1 (q' := (18, [some (.long x1.toInt64), none, some (.long 0), none, some (.long 3), none], [.int 0], hM0, 0, 0)) rfl ?_
    exact mEnds.ret rfl
  show mEnds [] 20 179 (9, [some (.ref 1), some (.int x1), some (.int x2), some (.int x3), none], [.int 0], hM0, 0, 0) _
  refine mEnds.steps 2 (q' := (31, [some (.ref 1), some (.int x1), some (.int x2), some (.int x3), none], [.int (-1)], hM0, 0, 0)) rfl ?_
  exact mEnds.ret rfl
set_option maxRecDepth 100000 in
theorem c34_FFT (x1 x2 x3 : Int32) (f0 : decide (x1 < 0) = false) (f1 : decide (3 < x1) = false) (f2 : decide (x2 < 0) = true) : ∃ hs', mEnds [] 20 100 (mentry 100 [.ref 1, .int x1, .int x2, .int x3] hC0) (some (.int (-1)), hs', 0, 0) := by
  refine ⟨hC0, ?_⟩
  refine mEnds.steps 3 (q' := (3, [some (.ref 1), some (.int x1), some (.int x2), some (.int x3)], [.int 3, .int 0, .int x1], hC0, 0, 0)) rfl ?_
  refine mEnds.call (d := 19) (y' := 105) (as := [.int x1, .int 0, .int 3]) (q' := (6, [some (.ref 1), some (.int x1), some (.int x2), some (.int x3)], [], hC0, 0, 0)) (v := some (.int 1)) (hs' := hC0) (c' := 0) (s' := 0) rfl rfl ?_ ?_
  · refine mEnds.steps 2 (q' := (2, [some (.int x1), some (.int 0), some (.int 3)], [.int 0, .int x1], hC0, 0, 0)) rfl ?_
    refine mEnds.brF (q' := (5, [some (.int x1), some (.int 0), some (.int 3)], [], hC0, 0, 0)) rfl f0 rfl ?_
    refine mEnds.steps 2 (q' := (7, [some (.int x1), some (.int 0), some (.int 3)], [.int 3, .int x1], hC0, 0, 0)) rfl ?_
    refine mEnds.brF (q' := (10, [some (.int x1), some (.int 0), some (.int 3)], [], hC0, 0, 0)) rfl f1 rfl ?_
    refine mEnds.steps 2 (q' := (15, [some (.int x1), some (.int 0), some (.int 3)], [.int 1], hC0, 0, 0)) rfl ?_
    exact mEnds.ret rfl
  show mEnds [] 20 100 (6, [some (.ref 1), some (.int x1), some (.int x2), some (.int x3)], [.int 1], hC0, 0, 0) _
  refine mEnds.steps 4 (q' := (12, [some (.ref 1), some (.int x1), some (.int x2), some (.int x3)], [.int 2, .int 0, .int x2], hC0, 0, 0)) rfl ?_
  refine mEnds.call (d := 19) (y' := 105) (as := [.int x2, .int 0, .int 2]) (q' := (15, [some (.ref 1), some (.int x1), some (.int x2), some (.int x3)], [], hC0, 0, 0)) (v := some (.int 0)) (hs' := hC0) (c' := 0) (s' := 0) rfl rfl ?_ ?_
  · refine mEnds.steps 2 (q' := (2, [some (.int x2), some (.int 0), some (.int 2)], [.int 0, .int x2], hC0, 0, 0)) rfl ?_
    refine mEnds.brT (q' := (14, [some (.int x2), some (.int 0), some (.int 2)], [], hC0, 0, 0)) rfl f2 rfl ?_
    refine mEnds.steps 1 (q' := (15, [some (.int x2), some (.int 0), some (.int 2)], [.int 0], hC0, 0, 0)) rfl ?_
    exact mEnds.ret rfl
  show mEnds [] 20 100 (15, [some (.ref 1), some (.int x1), some (.int x2), some (.int x3)], [.int 0], hC0, 0, 0) _
  refine mEnds.steps 2 (q' := (25, [some (.ref 1), some (.int x1), some (.int x2), some (.int x3)], [.int (-1)], hC0, 0, 0)) rfl ?_
  exact mEnds.ret rfl
set_option maxRecDepth 100000 in
theorem m34_FFT (x1 x2 x3 : Int32) (f0 : decide (x1 < 0) = false) (f1 : decide (3 < x1) = false) (f2 : decide (x2 < 0) = true) : ∃ hs', mEnds [] 20 179 (mentry 179 [.ref 1, .int x1, .int x2, .int x3] hM0) (some (.int (-1)), hs', 0, 0) := by
  refine ⟨hM0, ?_⟩
  refine mEnds.steps 4 (q' := (6, [some (.ref 1), some (.int x1), some (.int x2), some (.int x3), none], [.long 3, .long 0, .long x1.toInt64], hM0, 0, 0)) rfl ?_
  refine mEnds.call (d := 19) (y' := 111) (as := [.long x1.toInt64, .long 0, .long 3]) (q' := (9, [some (.ref 1), some (.int x1), some (.int x2), some (.int x3), none], [], hM0, 0, 0)) (v := some (.int 1)) (hs' := hM0) (c' := 0) (s' := 0) rfl rfl ?_ ?_
  · refine mEnds.steps 3 (q' := (3, [some (.long x1.toInt64), none, some (.long 0), none, some (.long 3), none], [.int (lg_cmp x1.toInt64 0)], hM0, 0, 0)) rfl ?_
    refine mEnds.brF (q' := (6, [some (.long x1.toInt64), none, some (.long 0), none, some (.long 3), none], [], hM0, 0, 0)) rfl (lgc_lt (c := 0) (by decide) f0) rfl ?_
    refine mEnds.steps 3 (q' := (10, [some (.long x1.toInt64), none, some (.long 0), none, some (.long 3), none], [.int (lg_cmp x1.toInt64 3)], hM0, 0, 0)) rfl ?_
    refine mEnds.brF (q' := (13, [some (.long x1.toInt64), none, some (.long 0), none, some (.long 3), none], [], hM0, 0, 0)) rfl (lgc_gt (c := 3) (by decide) f1) rfl ?_
    refine mEnds.steps 2 (q' := (18, [some (.long x1.toInt64), none, some (.long 0), none, some (.long 3), none], [.int 1], hM0, 0, 0)) rfl ?_
    exact mEnds.ret rfl
  show mEnds [] 20 179 (9, [some (.ref 1), some (.int x1), some (.int x2), some (.int x3), none], [.int 1], hM0, 0, 0) _
  refine mEnds.steps 5 (q' := (18, [some (.ref 1), some (.int x1), some (.int x2), some (.int x3), none], [.long 2, .long 0, .long x2.toInt64], hM0, 0, 0)) rfl ?_
  refine mEnds.call (d := 19) (y' := 111) (as := [.long x2.toInt64, .long 0, .long 2]) (q' := (21, [some (.ref 1), some (.int x1), some (.int x2), some (.int x3), none], [], hM0, 0, 0)) (v := some (.int 0)) (hs' := hM0) (c' := 0) (s' := 0) rfl rfl ?_ ?_
  · refine mEnds.steps 3 (q' := (3, [some (.long x2.toInt64), none, some (.long 0), none, some (.long 2), none], [.int (lg_cmp x2.toInt64 0)], hM0, 0, 0)) rfl ?_
    refine mEnds.brT (q' := (17, [some (.long x2.toInt64), none, some (.long 0), none, some (.long 2), none], [], hM0, 0, 0)) rfl (lgc_lt (c := 0) (by decide) f2) rfl ?_
    refine mEnds.steps 1 (q' := (18, [some (.long x2.toInt64), none, some (.long 0), none, some (.long 2), none], [.int 0], hM0, 0, 0)) rfl ?_
    exact mEnds.ret rfl
  show mEnds [] 20 179 (21, [some (.ref 1), some (.int x1), some (.int x2), some (.int x3), none], [.int 0], hM0, 0, 0) _
  refine mEnds.steps 2 (q' := (31, [some (.ref 1), some (.int x1), some (.int x2), some (.int x3), none], [.int (-1)], hM0, 0, 0)) rfl ?_
  exact mEnds.ret rfl
set_option maxRecDepth 100000 in
theorem c34_FFFT (x1 x2 x3 : Int32) (f0 : decide (x1 < 0) = false) (f1 : decide (3 < x1) = false) (f2 : decide (x2 < 0) = false) (f3 : decide (2 < x2) = true) : ∃ hs', mEnds [] 20 100 (mentry 100 [.ref 1, .int x1, .int x2, .int x3] hC0) (some (.int (-1)), hs', 0, 0) := by
  refine ⟨hC0, ?_⟩
  refine mEnds.steps 3 (q' := (3, [some (.ref 1), some (.int x1), some (.int x2), some (.int x3)], [.int 3, .int 0, .int x1], hC0, 0, 0)) rfl ?_
  refine mEnds.call (d := 19) (y' := 105) (as := [.int x1, .int 0, .int 3]) (q' := (6, [some (.ref 1), some (.int x1), some (.int x2), some (.int x3)], [], hC0, 0, 0)) (v := some (.int 1)) (hs' := hC0) (c' := 0) (s' := 0) rfl rfl ?_ ?_
  · refine mEnds.steps 2 (q' := (2, [some (.int x1), some (.int 0), some (.int 3)], [.int 0, .int x1], hC0, 0, 0)) rfl ?_
    refine mEnds.brF (q' := (5, [some (.int x1), some (.int 0), some (.int 3)], [], hC0, 0, 0)) rfl f0 rfl ?_
    refine mEnds.steps 2 (q' := (7, [some (.int x1), some (.int 0), some (.int 3)], [.int 3, .int x1], hC0, 0, 0)) rfl ?_
    refine mEnds.brF (q' := (10, [some (.int x1), some (.int 0), some (.int 3)], [], hC0, 0, 0)) rfl f1 rfl ?_
    refine mEnds.steps 2 (q' := (15, [some (.int x1), some (.int 0), some (.int 3)], [.int 1], hC0, 0, 0)) rfl ?_
    exact mEnds.ret rfl
  show mEnds [] 20 100 (6, [some (.ref 1), some (.int x1), some (.int x2), some (.int x3)], [.int 1], hC0, 0, 0) _
  refine mEnds.steps 4 (q' := (12, [some (.ref 1), some (.int x1), some (.int x2), some (.int x3)], [.int 2, .int 0, .int x2], hC0, 0, 0)) rfl ?_
  refine mEnds.call (d := 19) (y' := 105) (as := [.int x2, .int 0, .int 2]) (q' := (15, [some (.ref 1), some (.int x1), some (.int x2), some (.int x3)], [], hC0, 0, 0)) (v := some (.int 0)) (hs' := hC0) (c' := 0) (s' := 0) rfl rfl ?_ ?_
  · refine mEnds.steps 2 (q' := (2, [some (.int x2), some (.int 0), some (.int 2)], [.int 0, .int x2], hC0, 0, 0)) rfl ?_
    refine mEnds.brF (q' := (5, [some (.int x2), some (.int 0), some (.int 2)], [], hC0, 0, 0)) rfl f2 rfl ?_
    refine mEnds.steps 2 (q' := (7, [some (.int x2), some (.int 0), some (.int 2)], [.int 2, .int x2], hC0, 0, 0)) rfl ?_
    refine mEnds.brT (q' := (14, [some (.int x2), some (.int 0), some (.int 2)], [], hC0, 0, 0)) rfl f3 rfl ?_
    refine mEnds.steps 1 (q' := (15, [some (.int x2), some (.int 0), some (.int 2)], [.int 0], hC0, 0, 0)) rfl ?_
    exact mEnds.ret rfl
  show mEnds [] 20 100 (15, [some (.ref 1), some (.int x1), some (.int x2), some (.int x3)], [.int 0], hC0, 0, 0) _
  refine mEnds.steps 2 (q' := (25, [some (.ref 1), some (.int x1), some (.int x2), some (.int x3)], [.int (-1)], hC0, 0, 0)) rfl ?_
  exact mEnds.ret rfl
set_option maxRecDepth 100000 in
theorem m34_FFFT (x1 x2 x3 : Int32) (f0 : decide (x1 < 0) = false) (f1 : decide (3 < x1) = false) (f2 : decide (x2 < 0) = false) (f3 : decide (2 < x2) = true) : ∃ hs', mEnds [] 20 179 (mentry 179 [.ref 1, .int x1, .int x2, .int x3] hM0) (some (.int (-1)), hs', 0, 0) := by
  refine ⟨hM0, ?_⟩
  refine mEnds.steps 4 (q' := (6, [some (.ref 1), some (.int x1), some (.int x2), some (.int x3), none], [.long 3, .long 0, .long x1.toInt64], hM0, 0, 0)) rfl ?_
  refine mEnds.call (d := 19) (y' := 111) (as := [.long x1.toInt64, .long 0, .long 3]) (q' := (9, [some (.ref 1), some (.int x1), some (.int x2), some (.int x3), none], [], hM0, 0, 0)) (v := some (.int 1)) (hs' := hM0) (c' := 0) (s' := 0) rfl rfl ?_ ?_
  · refine mEnds.steps 3 (q' := (3, [some (.long x1.toInt64), none, some (.long 0), none, some (.long 3), none], [.int (lg_cmp x1.toInt64 0)], hM0, 0, 0)) rfl ?_
    refine mEnds.brF (q' := (6, [some (.long x1.toInt64), none, some (.long 0), none, some (.long 3), none], [], hM0, 0, 0)) rfl (lgc_lt (c := 0) (by decide) f0) rfl ?_
    refine mEnds.steps 3 (q' := (10, [some (.long x1.toInt64), none, some (.long 0), none, some (.long 3), none], [.int (lg_cmp x1.toInt64 3)], hM0, 0, 0)) rfl ?_
    refine mEnds.brF (q' := (13, [some (.long x1.toInt64), none, some (.long 0), none, some (.long 3), none], [], hM0, 0, 0)) rfl (lgc_gt (c := 3) (by decide) f1) rfl ?_
    refine mEnds.steps 2 (q' := (18, [some (.long x1.toInt64), none, some (.long 0), none, some (.long 3), none], [.int 1], hM0, 0, 0)) rfl ?_
    exact mEnds.ret rfl
  show mEnds [] 20 179 (9, [some (.ref 1), some (.int x1), some (.int x2), some (.int x3), none], [.int 1], hM0, 0, 0) _
  refine mEnds.steps 5 (q' := (18, [some (.ref 1), some (.int x1), some (.int x2), some (.int x3), none], [.long 2, .long 0, .long x2.toInt64], hM0, 0, 0)) rfl ?_
  refine mEnds.call (d := 19) (y' := 111) (as := [.long x2.toInt64, .long 0, .long 2]) (q' := (21, [some (.ref 1), some (.int x1), some (.int x2), some (.int x3), none], [], hM0, 0, 0)) (v := some (.int 0)) (hs' := hM0) (c' := 0) (s' := 0) rfl rfl ?_ ?_
  · refine mEnds.steps 3 (q' := (3, [some (.long x2.toInt64), none, some (.long 0), none, some (.long 2), none], [.int (lg_cmp x2.toInt64 0)], hM0, 0, 0)) rfl ?_
    refine mEnds.brF (q' := (6, [some (.long x2.toInt64), none, some (.long 0), none, some (.long 2), none], [], hM0, 0, 0)) rfl (lgc_lt (c := 0) (by decide) f2) rfl ?_
    refine mEnds.steps 3 (q' := (10, [some (.long x2.toInt64), none, some (.long 0), none, some (.long 2), none], [.int (lg_cmp x2.toInt64 2)], hM0, 0, 0)) rfl ?_
    refine mEnds.brT (q' := (17, [some (.long x2.toInt64), none, some (.long 0), none, some (.long 2), none], [], hM0, 0, 0)) rfl (lgc_gt (c := 2) (by decide) f3) rfl ?_
    refine mEnds.steps 1 (q' := (18, [some (.long x2.toInt64), none, some (.long 0), none, some (.long 2), none], [.int 0], hM0, 0, 0)) rfl ?_
    exact mEnds.ret rfl
  show mEnds [] 20 179 (21, [some (.ref 1), some (.int x1), some (.int x2), some (.int x3), none], [.int 0], hM0, 0, 0) _
  refine mEnds.steps 2 (q' := (31, [some (.ref 1), some (.int x1), some (.int x2), some (.int x3), none], [.int (-1)], hM0, 0, 0)) rfl ?_
  exact mEnds.ret rfl
set_option maxRecDepth 100000 in
theorem c34_FFFFT (x1 x2 x3 : Int32) (f0 : decide (x1 < 0) = false) (f1 : decide (3 < x1) = false) (f2 : decide (x2 < 0) = false) (f3 : decide (2 < x2) = false) (f4 : decide (40 < x3) = true) : ∃ hs', mEnds [] 20 100 (mentry 100 [.ref 1, .int x1, .int x2, .int x3] hC0) (some (.int (-1)), hs', 0, 0) := by
  refine ⟨hC0, ?_⟩
  refine mEnds.steps 3 (q' := (3, [some (.ref 1), some (.int x1), some (.int x2), some (.int x3)], [.int 3, .int 0, .int x1], hC0, 0, 0)) rfl ?_
  refine mEnds.call (d := 19) (y' := 105) (as := [.int x1, .int 0, .int 3]) (q' := (6, [some (.ref 1), some (.int x1), some (.int x2), some (.int x3)], [], hC0, 0, 0)) (v := some (.int 1)) (hs' := hC0) (c' := 0) (s' := 0) rfl rfl ?_ ?_
  · refine mEnds.steps 2 (q' := (2, [some (.int x1), some (.int 0), some (.int 3)], [.int 0, .int x1], hC0, 0, 0)) rfl ?_
    refine mEnds.brF (q' := (5, [some (.int x1), some (.int 0), some (.int 3)], [], hC0, 0, 0)) rfl f0 rfl ?_
    refine mEnds.steps 2 (q' := (7, [some (.int x1), some (.int 0), some (.int 3)], [.int 3, .int x1], hC0, 0, 0)) rfl ?_
    refine mEnds.brF (q' := (10, [some (.int x1), some (.int 0), some (.int 3)], [], hC0, 0, 0)) rfl f1 rfl ?_
    refine mEnds.steps 2 (q' := (15, [some (.int x1), some (.int 0), some (.int 3)], [.int 1], hC0, 0, 0)) rfl ?_
    exact mEnds.ret rfl
  show mEnds [] 20 100 (6, [some (.ref 1), some (.int x1), some (.int x2), some (.int x3)], [.int 1], hC0, 0, 0) _
  refine mEnds.steps 4 (q' := (12, [some (.ref 1), some (.int x1), some (.int x2), some (.int x3)], [.int 2, .int 0, .int x2], hC0, 0, 0)) rfl ?_
  refine mEnds.call (d := 19) (y' := 105) (as := [.int x2, .int 0, .int 2]) (q' := (15, [some (.ref 1), some (.int x1), some (.int x2), some (.int x3)], [], hC0, 0, 0)) (v := some (.int 1)) (hs' := hC0) (c' := 0) (s' := 0) rfl rfl ?_ ?_
  · refine mEnds.steps 2 (q' := (2, [some (.int x2), some (.int 0), some (.int 2)], [.int 0, .int x2], hC0, 0, 0)) rfl ?_
    refine mEnds.brF (q' := (5, [some (.int x2), some (.int 0), some (.int 2)], [], hC0, 0, 0)) rfl f2 rfl ?_
    refine mEnds.steps 2 (q' := (7, [some (.int x2), some (.int 0), some (.int 2)], [.int 2, .int x2], hC0, 0, 0)) rfl ?_
    refine mEnds.brF (q' := (10, [some (.int x2), some (.int 0), some (.int 2)], [], hC0, 0, 0)) rfl f3 rfl ?_
    refine mEnds.steps 2 (q' := (15, [some (.int x2), some (.int 0), some (.int 2)], [.int 1], hC0, 0, 0)) rfl ?_
    exact mEnds.ret rfl
  show mEnds [] 20 100 (15, [some (.ref 1), some (.int x1), some (.int x2), some (.int x3)], [.int 1], hC0, 0, 0) _
  refine mEnds.steps 3 (q' := (21, [some (.ref 1), some (.int x1), some (.int x2), some (.int x3)], [.int 40, .int x3], hC0, 0, 0)) rfl ?_
  refine mEnds.brF (q' := (24, [some (.ref 1), some (.int x1), some (.int x2), some (.int x3)], [], hC0, 0, 0)) rfl (mtk_le f4) rfl ?_
  refine mEnds.steps 1 (q' := (25, [some (.ref 1), some (.int x1), some (.int x2), some (.int x3)], [.int (-1)], hC0, 0, 0)) rfl ?_
  exact mEnds.ret rfl
set_option maxRecDepth 100000 in
theorem m34_FFFFT (x1 x2 x3 : Int32) (f0 : decide (x1 < 0) = false) (f1 : decide (3 < x1) = false) (f2 : decide (x2 < 0) = false) (f3 : decide (2 < x2) = false) (f4 : decide (40 < x3) = true) : ∃ hs', mEnds [] 20 179 (mentry 179 [.ref 1, .int x1, .int x2, .int x3] hM0) (some (.int (-1)), hs', 0, 0) := by
  refine ⟨hM0, ?_⟩
  refine mEnds.steps 4 (q' := (6, [some (.ref 1), some (.int x1), some (.int x2), some (.int x3), none], [.long 3, .long 0, .long x1.toInt64], hM0, 0, 0)) rfl ?_
  refine mEnds.call (d := 19) (y' := 111) (as := [.long x1.toInt64, .long 0, .long 3]) (q' := (9, [some (.ref 1), some (.int x1), some (.int x2), some (.int x3), none], [], hM0, 0, 0)) (v := some (.int 1)) (hs' := hM0) (c' := 0) (s' := 0) rfl rfl ?_ ?_
  · refine mEnds.steps 3 (q' := (3, [some (.long x1.toInt64), none, some (.long 0), none, some (.long 3), none], [.int (lg_cmp x1.toInt64 0)], hM0, 0, 0)) rfl ?_
    refine mEnds.brF (q' := (6, [some (.long x1.toInt64), none, some (.long 0), none, some (.long 3), none], [], hM0, 0, 0)) rfl (lgc_lt (c := 0) (by decide) f0) rfl ?_
    refine mEnds.steps 3 (q' := (10, [some (.long x1.toInt64), none, some (.long 0), none, some (.long 3), none], [.int (lg_cmp x1.toInt64 3)], hM0, 0, 0)) rfl ?_
    refine mEnds.brF (q' := (13, [some (.long x1.toInt64), none, some (.long 0), none, some (.long 3), none], [], hM0, 0, 0)) rfl (lgc_gt (c := 3) (by decide) f1) rfl ?_
    refine mEnds.steps 2 (q' := (18, [some (.long x1.toInt64), none, some (.long 0), none, some (.long 3), none], [.int 1], hM0, 0, 0)) rfl ?_
    exact mEnds.ret rfl
  show mEnds [] 20 179 (9, [some (.ref 1), some (.int x1), some (.int x2), some (.int x3), none], [.int 1], hM0, 0, 0) _
  refine mEnds.steps 5 (q' := (18, [some (.ref 1), some (.int x1), some (.int x2), some (.int x3), none], [.long 2, .long 0, .long x2.toInt64], hM0, 0, 0)) rfl ?_
  refine mEnds.call (d := 19) (y' := 111) (as := [.long x2.toInt64, .long 0, .long 2]) (q' := (21, [some (.ref 1), some (.int x1), some (.int x2), some (.int x3), none], [], hM0, 0, 0)) (v := some (.int 1)) (hs' := hM0) (c' := 0) (s' := 0) rfl rfl ?_ ?_
  · refine mEnds.steps 3 (q' := (3, [some (.long x2.toInt64), none, some (.long 0), none, some (.long 2), none], [.int (lg_cmp x2.toInt64 0)], hM0, 0, 0)) rfl ?_
    refine mEnds.brF (q' := (6, [some (.long x2.toInt64), none, some (.long 0), none, some (.long 2), none], [], hM0, 0, 0)) rfl (lgc_lt (c := 0) (by decide) f2) rfl ?_
    refine mEnds.steps 3 (q' := (10, [some (.long x2.toInt64), none, some (.long 0), none, some (.long 2), none], [.int (lg_cmp x2.toInt64 2)], hM0, 0, 0)) rfl ?_
    refine mEnds.brF (q' := (13, [some (.long x2.toInt64), none, some (.long 0), none, some (.long 2), none], [], hM0, 0, 0)) rfl (lgc_gt (c := 2) (by decide) f3) rfl ?_
    refine mEnds.steps 2 (q' := (18, [some (.long x2.toInt64), none, some (.long 0), none, some (.long 2), none], [.int 1], hM0, 0, 0)) rfl ?_
    exact mEnds.ret rfl
  show mEnds [] 20 179 (21, [some (.ref 1), some (.int x1), some (.int x2), some (.int x3), none], [.int 1], hM0, 0, 0) _
  refine mEnds.steps 3 (q' := (27, [some (.ref 1), some (.int x1), some (.int x2), some (.int x3), none], [.int 40, .int x3], hM0, 0, 0)) rfl ?_
  refine mEnds.brF (q' := (30, [some (.ref 1), some (.int x1), some (.int x2), some (.int x3), none], [], hM0, 0, 0)) rfl (mtk_le f4) rfl ?_
  refine mEnds.steps 1 (q' := (31, [some (.ref 1), some (.int x1), some (.int x2), some (.int x3), none], [.int (-1)], hM0, 0, 0)) rfl ?_
  exact mEnds.ret rfl
set_option maxRecDepth 100000 in
theorem c34_FFFFFT (x1 x2 x3 : Int32) (f0 : decide (x1 < 0) = false) (f1 : decide (3 < x1) = false) (f2 : decide (x2 < 0) = false) (f3 : decide (2 < x2) = false) (f4 : decide (40 < x3) = false) (f5 : decide (x3 < 0) = true) : ∃ hs', mEnds [] 20 100 (mentry 100 [.ref 1, .int x1, .int x2, .int x3] hC0) (some (.int (-14)), hs', 0, 0) := by
  refine ⟨hC0, ?_⟩
  refine mEnds.steps 3 (q' := (3, [some (.ref 1), some (.int x1), some (.int x2), some (.int x3)], [.int 3, .int 0, .int x1], hC0, 0, 0)) rfl ?_
  refine mEnds.call (d := 19) (y' := 105) (as := [.int x1, .int 0, .int 3]) (q' := (6, [some (.ref 1), some (.int x1), some (.int x2), some (.int x3)], [], hC0, 0, 0)) (v := some (.int 1)) (hs' := hC0) (c' := 0) (s' := 0) rfl rfl ?_ ?_
  · refine mEnds.steps 2 (q' := (2, [some (.int x1), some (.int 0), some (.int 3)], [.int 0, .int x1], hC0, 0, 0)) rfl ?_
    refine mEnds.brF (q' := (5, [some (.int x1), some (.int 0), some (.int 3)], [], hC0, 0, 0)) rfl f0 rfl ?_
    refine mEnds.steps 2 (q' := (7, [some (.int x1), some (.int 0), some (.int 3)], [.int 3, .int x1], hC0, 0, 0)) rfl ?_
    refine mEnds.brF (q' := (10, [some (.int x1), some (.int 0), some (.int 3)], [], hC0, 0, 0)) rfl f1 rfl ?_
    refine mEnds.steps 2 (q' := (15, [some (.int x1), some (.int 0), some (.int 3)], [.int 1], hC0, 0, 0)) rfl ?_
    exact mEnds.ret rfl
  show mEnds [] 20 100 (6, [some (.ref 1), some (.int x1), some (.int x2), some (.int x3)], [.int 1], hC0, 0, 0) _
  refine mEnds.steps 4 (q' := (12, [some (.ref 1), some (.int x1), some (.int x2), some (.int x3)], [.int 2, .int 0, .int x2], hC0, 0, 0)) rfl ?_
  refine mEnds.call (d := 19) (y' := 105) (as := [.int x2, .int 0, .int 2]) (q' := (15, [some (.ref 1), some (.int x1), some (.int x2), some (.int x3)], [], hC0, 0, 0)) (v := some (.int 1)) (hs' := hC0) (c' := 0) (s' := 0) rfl rfl ?_ ?_
  · refine mEnds.steps 2 (q' := (2, [some (.int x2), some (.int 0), some (.int 2)], [.int 0, .int x2], hC0, 0, 0)) rfl ?_
    refine mEnds.brF (q' := (5, [some (.int x2), some (.int 0), some (.int 2)], [], hC0, 0, 0)) rfl f2 rfl ?_
    refine mEnds.steps 2 (q' := (7, [some (.int x2), some (.int 0), some (.int 2)], [.int 2, .int x2], hC0, 0, 0)) rfl ?_
    refine mEnds.brF (q' := (10, [some (.int x2), some (.int 0), some (.int 2)], [], hC0, 0, 0)) rfl f3 rfl ?_
    refine mEnds.steps 2 (q' := (15, [some (.int x2), some (.int 0), some (.int 2)], [.int 1], hC0, 0, 0)) rfl ?_
    exact mEnds.ret rfl
  show mEnds [] 20 100 (15, [some (.ref 1), some (.int x1), some (.int x2), some (.int x3)], [.int 1], hC0, 0, 0) _
  refine mEnds.steps 3 (q' := (21, [some (.ref 1), some (.int x1), some (.int x2), some (.int x3)], [.int 40, .int x3], hC0, 0, 0)) rfl ?_
  refine mEnds.brT (q' := (26, [some (.ref 1), some (.int x1), some (.int x2), some (.int x3)], [], hC0, 0, 0)) rfl (mtk_le f4) rfl ?_
  refine mEnds.steps 1 (q' := (27, [some (.ref 1), some (.int x1), some (.int x2), some (.int x3)], [.int x3], hC0, 0, 0)) rfl ?_
  refine mEnds.brF (q' := (30, [some (.ref 1), some (.int x1), some (.int x2), some (.int x3)], [], hC0, 0, 0)) rfl (mtk_ge f5) rfl ?_
  refine mEnds.steps 1 (q' := (32, [some (.ref 1), some (.int x1), some (.int x2), some (.int x3)], [.int (-14)], hC0, 0, 0)) rfl ?_
  exact mEnds.ret rfl
set_option maxRecDepth 100000 in
theorem m34_FFFFFT (x1 x2 x3 : Int32) (f0 : decide (x1 < 0) = false) (f1 : decide (3 < x1) = false) (f2 : decide (x2 < 0) = false) (f3 : decide (2 < x2) = false) (f4 : decide (40 < x3) = false) (f5 : decide (x3 < 0) = true) : ∃ hs', mEnds [] 20 179 (mentry 179 [.ref 1, .int x1, .int x2, .int x3] hM0) (some (.int (-14)), hs', 0, 0) := by
  refine ⟨hM0, ?_⟩
  refine mEnds.steps 4 (q' := (6, [some (.ref 1), some (.int x1), some (.int x2), some (.int x3), none], [.long 3, .long 0, .long x1.toInt64], hM0, 0, 0)) rfl ?_
  refine mEnds.call (d := 19) (y' := 111) (as := [.long x1.toInt64, .long 0, .long 3]) (q' := (9, [some (.ref 1), some (.int x1), some (.int x2), some (.int x3), none], [], hM0, 0, 0)) (v := some (.int 1)) (hs' := hM0) (c' := 0) (s' := 0) rfl rfl ?_ ?_
  · refine mEnds.steps 3 (q' := (3, [some (.long x1.toInt64), none, some (.long 0), none, some (.long 3), none], [.int (lg_cmp x1.toInt64 0)], hM0, 0, 0)) rfl ?_
    refine mEnds.brF (q' := (6, [some (.long x1.toInt64), none, some (.long 0), none, some (.long 3), none], [], hM0, 0, 0)) rfl (lgc_lt (c := 0) (by decide) f0) rfl ?_
    refine mEnds.steps 3 (q' := (10, [some (.long x1.toInt64), none, some (.long 0), none, some (.long 3), none], [.int (lg_cmp x1.toInt64 3)], hM0, 0, 0)) rfl ?_
    refine mEnds.brF (q' := (13, [some (.long x1.toInt64), none, some (.long 0), none, some (.long 3), none], [], hM0, 0, 0)) rfl (lgc_gt (c := 3) (by decide) f1) rfl ?_
    refine mEnds.steps 2 (q' := (18, [some (.long x1.toInt64), none, some (.long 0), none, some (.long 3), none], [.int 1], hM0, 0, 0)) rfl ?_
    exact mEnds.ret rfl
  show mEnds [] 20 179 (9, [some (.ref 1), some (.int x1), some (.int x2), some (.int x3), none], [.int 1], hM0, 0, 0) _
  refine mEnds.steps 5 (q' := (18, [some (.ref 1), some (.int x1), some (.int x2), some (.int x3), none], [.long 2, .long 0, .long x2.toInt64], hM0, 0, 0)) rfl ?_
  refine mEnds.call (d := 19) (y' := 111) (as := [.long x2.toInt64, .long 0, .long 2]) (q' := (21, [some (.ref 1), some (.int x1), some (.int x2), some (.int x3), none], [], hM0, 0, 0)) (v := some (.int 1)) (hs' := hM0) (c' := 0) (s' := 0) rfl rfl ?_ ?_
  · refine mEnds.steps 3 (q' := (3, [some (.long x2.toInt64), none, some (.long 0), none, some (.long 2), none], [.int (lg_cmp x2.toInt64 0)], hM0, 0, 0)) rfl ?_
    refine mEnds.brF (q' := (6, [some (.long x2.toInt64), none, some (.long 0), none, some (.long 2), none], [], hM0, 0, 0)) rfl (lgc_lt (c := 0) (by decide) f2) rfl ?_
    refine mEnds.steps 3 (q' := (10, [some (.long x2.toInt64), none, some (.long 0), none, some (.long 2), none], [.int (lg_cmp x2.toInt64 2)], hM0, 0, 0)) rfl ?_
    refine mEnds.brF (q' := (13, [some (.long x2.toInt64), none, some (.long 0), none, some (.long 2), none], [], hM0, 0, 0)) rfl (lgc_gt (c := 2) (by decide) f3) rfl ?_
    refine mEnds.steps 2 (q' := (18, [some (.long x2.toInt64), none, some (.long 0), none, some (.long 2), none], [.int 1], hM0, 0, 0)) rfl ?_
    exact mEnds.ret rfl
  show mEnds [] 20 179 (21, [some (.ref 1), some (.int x1), some (.int x2), some (.int x3), none], [.int 1], hM0, 0, 0) _
  refine mEnds.steps 3 (q' := (27, [some (.ref 1), some (.int x1), some (.int x2), some (.int x3), none], [.int 40, .int x3], hM0, 0, 0)) rfl ?_
  refine mEnds.brT (q' := (32, [some (.ref 1), some (.int x1), some (.int x2), some (.int x3), none], [], hM0, 0, 0)) rfl (mtk_le f4) rfl ?_
  refine mEnds.steps 1 (q' := (33, [some (.ref 1), some (.int x1), some (.int x2), some (.int x3), none], [.int x3], hM0, 0, 0)) rfl ?_
  refine mEnds.brF (q' := (36, [some (.ref 1), some (.int x1), some (.int x2), some (.int x3), none], [], hM0, 0, 0)) rfl (mtk_ge f5) rfl ?_
  refine mEnds.steps 1 (q' := (38, [some (.ref 1), some (.int x1), some (.int x2), some (.int x3), none], [.int (-14)], hM0, 0, 0)) rfl ?_
  exact mEnds.ret rfl
set_option maxRecDepth 100000 in
theorem c34_FFFFFFv0N (N : Nat) (hN : N ≤ 40) (x2 : Int32) (f2 : decide (x2 < 0) = false) (f3 : decide (2 < x2) = false) (f4 : decide (40 < (nI N)) = false) (f5 : decide ((nI N) < 0) = false) : ∃ hs', mEnds [] 20 100 (mentry 100 [.ref 1, .int 0, .int x2, .int (nI N)] hC0) (some (.int 1), hs', 0, 0) := by
  refine ⟨(shC0 x2 N), ?_⟩
  refine mEnds.steps 3 (q' := (3, [some (.ref 1), some (.int 0), some (.int x2), some (.int (nI N))], [.int 3, .int 0, .int 0], hC0, 0, 0)) rfl ?_
  refine mEnds.call (d := 19) (y' := 105) (as := [.int 0, .int 0, .int 3]) (q' := (6, [some (.ref 1), some (.int 0), some (.int x2), some (.int (nI N))], [], hC0, 0, 0)) (v := some (.int 1)) (hs' := hC0) (c' := 0) (s' := 0) rfl rfl ?_ ?_
  · refine mEnds.steps 8 (q' := (15, [some (.int 0), some (.int 0), some (.int 3)], [.int 1], hC0, 0, 0)) rfl ?_
    exact mEnds.ret rfl
  show mEnds [] 20 100 (6, [some (.ref 1), some (.int 0), some (.int x2), some (.int (nI N))], [.int 1], hC0, 0, 0) _
  refine mEnds.steps 4 (q' := (12, [some (.ref 1), some (.int 0), some (.int x2), some (.int (nI N))], [.int 2, .int 0, .int x2], hC0, 0, 0)) rfl ?_
  refine mEnds.call (d := 19) (y' := 105) (as := [.int x2, .int 0, .int 2]) (q' := (15, [some (.ref 1), some (.int 0), some (.int x2), some (.int (nI N))], [], hC0, 0, 0)) (v := some (.int 1)) (hs' := hC0) (c' := 0) (s' := 0) rfl rfl ?_ ?_
  · refine mEnds.steps 2 (q' := (2, [some (.int x2), some (.int 0), some (.int 2)], [.int 0, .int x2], hC0, 0, 0)) rfl ?_
    refine mEnds.brF (q' := (5, [some (.int x2), some (.int 0), some (.int 2)], [], hC0, 0, 0)) rfl f2 rfl ?_
    refine mEnds.steps 2 (q' := (7, [some (.int x2), some (.int 0), some (.int 2)], [.int 2, .int x2], hC0, 0, 0)) rfl ?_
    refine mEnds.brF (q' := (10, [some (.int x2), some (.int 0), some (.int 2)], [], hC0, 0, 0)) rfl f3 rfl ?_
    refine mEnds.steps 2 (q' := (15, [some (.int x2), some (.int 0), some (.int 2)], [.int 1], hC0, 0, 0)) rfl ?_
    exact mEnds.ret rfl
  show mEnds [] 20 100 (15, [some (.ref 1), some (.int 0), some (.int x2), some (.int (nI N))], [.int 1], hC0, 0, 0) _
  refine mEnds.steps 3 (q' := (21, [some (.ref 1), some (.int 0), some (.int x2), some (.int (nI N))], [.int 40, .int (nI N)], hC0, 0, 0)) rfl ?_
  refine mEnds.brT (q' := (26, [some (.ref 1), some (.int 0), some (.int x2), some (.int (nI N))], [], hC0, 0, 0)) rfl (mtk_le f4) rfl ?_
  refine mEnds.steps 1 (q' := (27, [some (.ref 1), some (.int 0), some (.int x2), some (.int (nI N))], [.int (nI N)], hC0, 0, 0)) rfl ?_
  refine mEnds.brT (q' := (33, [some (.ref 1), some (.int 0), some (.int x2), some (.int (nI N))], [], hC0, 0, 0)) rfl (mtk_ge f5) rfl ?_
  refine mEnds.steps 6 (q' := (41, [some (.ref 1), some (.int 0), some (.int x2), some (.int (nI N))], [.int (nI N), .int x2, .ref 124], hC0, 0, 0)) rfl ?_
  refine mEnds.call (d := 19) (y' := 31) (as := [.ref 124, .int x2, .int (nI N)]) (q' := (44, [some (.ref 1), some (.int 0), some (.int x2), some (.int (nI N))], [], hC0, 0, 0)) (v := none) (hs' := (shC0 x2 N)) (c' := 0) (s' := 0) rfl rfl ?_ ?_
  · exact mEnds.deep (rn0 hN x2) 0
  show mEnds [] 20 100 (44, [some (.ref 1), some (.int 0), some (.int x2), some (.int (nI N))], [], (shC0 x2 N), 0, 0) _
  refine mEnds.steps 1 (q' := (45, [some (.ref 1), some (.int 0), some (.int x2), some (.int (nI N))], [.int 1], (shC0 x2 N), 0, 0)) rfl ?_
  exact mEnds.ret rfl
set_option maxRecDepth 100000 in
theorem m34_FFFFFFv0N (N : Nat) (hN : N ≤ 40) (x2 : Int32) (f2 : decide (x2 < 0) = false) (f3 : decide (2 < x2) = false) (f4 : decide (40 < (nI N)) = false) (f5 : decide ((nI N) < 0) = false) : ∃ hs', mEnds [] 20 179 (mentry 179 [.ref 1, .int 0, .int x2, .int (nI N)] hM0) (some (.int 1), hs', 0, 0) := by
  refine ⟨(shM0 x2 N), ?_⟩
  refine mEnds.steps 4 (q' := (6, [some (.ref 1), some (.int 0), some (.int x2), some (.int (nI N)), none], [.long 3, .long 0, .long 0], hM0, 0, 0)) rfl ?_
  refine mEnds.call (d := 19) (y' := 111) (as := [.long 0, .long 0, .long 3]) (q' := (9, [some (.ref 1), some (.int 0), some (.int x2), some (.int (nI N)), none], [], hM0, 0, 0)) (v := some (.int 1)) (hs' := hM0) (c' := 0) (s' := 0) rfl rfl ?_ ?_
  · refine mEnds.steps 10 (q' := (18, [some (.long 0), none, some (.long 0), none, some (.long 3), none], [.int 1], hM0, 0, 0)) rfl ?_
    exact mEnds.ret rfl
  show mEnds [] 20 179 (9, [some (.ref 1), some (.int 0), some (.int x2), some (.int (nI N)), none], [.int 1], hM0, 0, 0) _
  refine mEnds.steps 5 (q' := (18, [some (.ref 1), some (.int 0), some (.int x2), some (.int (nI N)), none], [.long 2, .long 0, .long x2.toInt64], hM0, 0, 0)) rfl ?_
  refine mEnds.call (d := 19) (y' := 111) (as := [.long x2.toInt64, .long 0, .long 2]) (q' := (21, [some (.ref 1), some (.int 0), some (.int x2), some (.int (nI N)), none], [], hM0, 0, 0)) (v := some (.int 1)) (hs' := hM0) (c' := 0) (s' := 0) rfl rfl ?_ ?_
  · refine mEnds.steps 3 (q' := (3, [some (.long x2.toInt64), none, some (.long 0), none, some (.long 2), none], [.int (lg_cmp x2.toInt64 0)], hM0, 0, 0)) rfl ?_
    refine mEnds.brF (q' := (6, [some (.long x2.toInt64), none, some (.long 0), none, some (.long 2), none], [], hM0, 0, 0)) rfl (lgc_lt (c := 0) (by decide) f2) rfl ?_
    refine mEnds.steps 3 (q' := (10, [some (.long x2.toInt64), none, some (.long 0), none, some (.long 2), none], [.int (lg_cmp x2.toInt64 2)], hM0, 0, 0)) rfl ?_
    refine mEnds.brF (q' := (13, [some (.long x2.toInt64), none, some (.long 0), none, some (.long 2), none], [], hM0, 0, 0)) rfl (lgc_gt (c := 2) (by decide) f3) rfl ?_
    refine mEnds.steps 2 (q' := (18, [some (.long x2.toInt64), none, some (.long 0), none, some (.long 2), none], [.int 1], hM0, 0, 0)) rfl ?_
    exact mEnds.ret rfl
  show mEnds [] 20 179 (21, [some (.ref 1), some (.int 0), some (.int x2), some (.int (nI N)), none], [.int 1], hM0, 0, 0) _
  refine mEnds.steps 3 (q' := (27, [some (.ref 1), some (.int 0), some (.int x2), some (.int (nI N)), none], [.int 40, .int (nI N)], hM0, 0, 0)) rfl ?_
  refine mEnds.brT (q' := (32, [some (.ref 1), some (.int 0), some (.int x2), some (.int (nI N)), none], [], hM0, 0, 0)) rfl (mtk_le f4) rfl ?_
  refine mEnds.steps 1 (q' := (33, [some (.ref 1), some (.int 0), some (.int x2), some (.int (nI N)), none], [.int (nI N)], hM0, 0, 0)) rfl ?_
  refine mEnds.brT (q' := (39, [some (.ref 1), some (.int 0), some (.int x2), some (.int (nI N)), none], [], hM0, 0, 0)) rfl (mtk_ge f5) rfl ?_
  refine mEnds.steps 12 (q' := (56, [some (.ref 1), some (.int 0), some (.int x2), some (.int (nI N)), some (.int 0)], [], ((hM0.set 11 (.inl (0, [x2, (-4), (-4), (-4)]))).set 12 (.inl (0, [(nI N), 0, 0, 0]))), 0, 0)) rfl ?_
  exact ml0 x2 N 40 0 (by omega)
set_option maxRecDepth 100000 in
theorem c34_FFFFFFv1N (N : Nat) (hN : N ≤ 40) (x2 : Int32) (f2 : decide (x2 < 0) = false) (f3 : decide (2 < x2) = false) (f4 : decide (40 < (nI N)) = false) (f5 : decide ((nI N) < 0) = false) : ∃ hs', mEnds [] 20 100 (mentry 100 [.ref 1, .int 1, .int x2, .int (nI N)] hC0) (some (.int 1), hs', 0, 0) := by
  refine ⟨(shC1 x2 N), ?_⟩
  refine mEnds.steps 3 (q' := (3, [some (.ref 1), some (.int 1), some (.int x2), some (.int (nI N))], [.int 3, .int 0, .int 1], hC0, 0, 0)) rfl ?_
  refine mEnds.call (d := 19) (y' := 105) (as := [.int 1, .int 0, .int 3]) (q' := (6, [some (.ref 1), some (.int 1), some (.int x2), some (.int (nI N))], [], hC0, 0, 0)) (v := some (.int 1)) (hs' := hC0) (c' := 0) (s' := 0) rfl rfl ?_ ?_
  · refine mEnds.steps 8 (q' := (15, [some (.int 1), some (.int 0), some (.int 3)], [.int 1], hC0, 0, 0)) rfl ?_
    exact mEnds.ret rfl
  show mEnds [] 20 100 (6, [some (.ref 1), some (.int 1), some (.int x2), some (.int (nI N))], [.int 1], hC0, 0, 0) _
  refine mEnds.steps 4 (q' := (12, [some (.ref 1), some (.int 1), some (.int x2), some (.int (nI N))], [.int 2, .int 0, .int x2], hC0, 0, 0)) rfl ?_
  refine mEnds.call (d := 19) (y' := 105) (as := [.int x2, .int 0, .int 2]) (q' := (15, [some (.ref 1), some (.int 1), some (.int x2), some (.int (nI N))], [], hC0, 0, 0)) (v := some (.int 1)) (hs' := hC0) (c' := 0) (s' := 0) rfl rfl ?_ ?_
  · refine mEnds.steps 2 (q' := (2, [some (.int x2), some (.int 0), some (.int 2)], [.int 0, .int x2], hC0, 0, 0)) rfl ?_
    refine mEnds.brF (q' := (5, [some (.int x2), some (.int 0), some (.int 2)], [], hC0, 0, 0)) rfl f2 rfl ?_
    refine mEnds.steps 2 (q' := (7, [some (.int x2), some (.int 0), some (.int 2)], [.int 2, .int x2], hC0, 0, 0)) rfl ?_
    refine mEnds.brF (q' := (10, [some (.int x2), some (.int 0), some (.int 2)], [], hC0, 0, 0)) rfl f3 rfl ?_
    refine mEnds.steps 2 (q' := (15, [some (.int x2), some (.int 0), some (.int 2)], [.int 1], hC0, 0, 0)) rfl ?_
    exact mEnds.ret rfl
  show mEnds [] 20 100 (15, [some (.ref 1), some (.int 1), some (.int x2), some (.int (nI N))], [.int 1], hC0, 0, 0) _
  refine mEnds.steps 3 (q' := (21, [some (.ref 1), some (.int 1), some (.int x2), some (.int (nI N))], [.int 40, .int (nI N)], hC0, 0, 0)) rfl ?_
  refine mEnds.brT (q' := (26, [some (.ref 1), some (.int 1), some (.int x2), some (.int (nI N))], [], hC0, 0, 0)) rfl (mtk_le f4) rfl ?_
  refine mEnds.steps 1 (q' := (27, [some (.ref 1), some (.int 1), some (.int x2), some (.int (nI N))], [.int (nI N)], hC0, 0, 0)) rfl ?_
  refine mEnds.brT (q' := (33, [some (.ref 1), some (.int 1), some (.int x2), some (.int (nI N))], [], hC0, 0, 0)) rfl (mtk_ge f5) rfl ?_
  refine mEnds.steps 6 (q' := (41, [some (.ref 1), some (.int 1), some (.int x2), some (.int (nI N))], [.int (nI N), .int x2, .ref 126], hC0, 0, 0)) rfl ?_
  refine mEnds.call (d := 19) (y' := 31) (as := [.ref 126, .int x2, .int (nI N)]) (q' := (44, [some (.ref 1), some (.int 1), some (.int x2), some (.int (nI N))], [], hC0, 0, 0)) (v := none) (hs' := (shC1 x2 N)) (c' := 0) (s' := 0) rfl rfl ?_ ?_
  · exact mEnds.deep (rn1 hN x2) 0
  show mEnds [] 20 100 (44, [some (.ref 1), some (.int 1), some (.int x2), some (.int (nI N))], [], (shC1 x2 N), 0, 0) _
  refine mEnds.steps 1 (q' := (45, [some (.ref 1), some (.int 1), some (.int x2), some (.int (nI N))], [.int 1], (shC1 x2 N), 0, 0)) rfl ?_
  exact mEnds.ret rfl
set_option maxRecDepth 100000 in
theorem m34_FFFFFFv1N (N : Nat) (hN : N ≤ 40) (x2 : Int32) (f2 : decide (x2 < 0) = false) (f3 : decide (2 < x2) = false) (f4 : decide (40 < (nI N)) = false) (f5 : decide ((nI N) < 0) = false) : ∃ hs', mEnds [] 20 179 (mentry 179 [.ref 1, .int 1, .int x2, .int (nI N)] hM0) (some (.int 1), hs', 0, 0) := by
  refine ⟨(shM1 x2 N), ?_⟩
  refine mEnds.steps 4 (q' := (6, [some (.ref 1), some (.int 1), some (.int x2), some (.int (nI N)), none], [.long 3, .long 0, .long 1], hM0, 0, 0)) rfl ?_
  refine mEnds.call (d := 19) (y' := 111) (as := [.long 1, .long 0, .long 3]) (q' := (9, [some (.ref 1), some (.int 1), some (.int x2), some (.int (nI N)), none], [], hM0, 0, 0)) (v := some (.int 1)) (hs' := hM0) (c' := 0) (s' := 0) rfl rfl ?_ ?_
  · refine mEnds.steps 10 (q' := (18, [some (.long 1), none, some (.long 0), none, some (.long 3), none], [.int 1], hM0, 0, 0)) rfl ?_
    exact mEnds.ret rfl
  show mEnds [] 20 179 (9, [some (.ref 1), some (.int 1), some (.int x2), some (.int (nI N)), none], [.int 1], hM0, 0, 0) _
  refine mEnds.steps 5 (q' := (18, [some (.ref 1), some (.int 1), some (.int x2), some (.int (nI N)), none], [.long 2, .long 0, .long x2.toInt64], hM0, 0, 0)) rfl ?_
  refine mEnds.call (d := 19) (y' := 111) (as := [.long x2.toInt64, .long 0, .long 2]) (q' := (21, [some (.ref 1), some (.int 1), some (.int x2), some (.int (nI N)), none], [], hM0, 0, 0)) (v := some (.int 1)) (hs' := hM0) (c' := 0) (s' := 0) rfl rfl ?_ ?_
  · refine mEnds.steps 3 (q' := (3, [some (.long x2.toInt64), none, some (.long 0), none, some (.long 2), none], [.int (lg_cmp x2.toInt64 0)], hM0, 0, 0)) rfl ?_
    refine mEnds.brF (q' := (6, [some (.long x2.toInt64), none, some (.long 0), none, some (.long 2), none], [], hM0, 0, 0)) rfl (lgc_lt (c := 0) (by decide) f2) rfl ?_
    refine mEnds.steps 3 (q' := (10, [some (.long x2.toInt64), none, some (.long 0), none, some (.long 2), none], [.int (lg_cmp x2.toInt64 2)], hM0, 0, 0)) rfl ?_
    refine mEnds.brF (q' := (13, [some (.long x2.toInt64), none, some (.long 0), none, some (.long 2), none], [], hM0, 0, 0)) rfl (lgc_gt (c := 2) (by decide) f3) rfl ?_
    refine mEnds.steps 2 (q' := (18, [some (.long x2.toInt64), none, some (.long 0), none, some (.long 2), none], [.int 1], hM0, 0, 0)) rfl ?_
    exact mEnds.ret rfl
  show mEnds [] 20 179 (21, [some (.ref 1), some (.int 1), some (.int x2), some (.int (nI N)), none], [.int 1], hM0, 0, 0) _
  refine mEnds.steps 3 (q' := (27, [some (.ref 1), some (.int 1), some (.int x2), some (.int (nI N)), none], [.int 40, .int (nI N)], hM0, 0, 0)) rfl ?_
  refine mEnds.brT (q' := (32, [some (.ref 1), some (.int 1), some (.int x2), some (.int (nI N)), none], [], hM0, 0, 0)) rfl (mtk_le f4) rfl ?_
  refine mEnds.steps 1 (q' := (33, [some (.ref 1), some (.int 1), some (.int x2), some (.int (nI N)), none], [.int (nI N)], hM0, 0, 0)) rfl ?_
  refine mEnds.brT (q' := (39, [some (.ref 1), some (.int 1), some (.int x2), some (.int (nI N)), none], [], hM0, 0, 0)) rfl (mtk_ge f5) rfl ?_
  refine mEnds.steps 12 (q' := (56, [some (.ref 1), some (.int 1), some (.int x2), some (.int (nI N)), some (.int 0)], [], ((hM0.set 11 (.inl (0, [(-4), x2, (-4), (-4)]))).set 12 (.inl (0, [0, (nI N), 0, 0]))), 0, 0)) rfl ?_
  exact ml1 x2 N 40 0 (by omega)
set_option maxRecDepth 100000 in
theorem c34_FFFFFFv2N (N : Nat) (hN : N ≤ 40) (x2 : Int32) (f2 : decide (x2 < 0) = false) (f3 : decide (2 < x2) = false) (f4 : decide (40 < (nI N)) = false) (f5 : decide ((nI N) < 0) = false) : ∃ hs', mEnds [] 20 100 (mentry 100 [.ref 1, .int 2, .int x2, .int (nI N)] hC0) (some (.int 1), hs', 0, 0) := by
  refine ⟨(shC2 x2 N), ?_⟩
  refine mEnds.steps 3 (q' := (3, [some (.ref 1), some (.int 2), some (.int x2), some (.int (nI N))], [.int 3, .int 0, .int 2], hC0, 0, 0)) rfl ?_
  refine mEnds.call (d := 19) (y' := 105) (as := [.int 2, .int 0, .int 3]) (q' := (6, [some (.ref 1), some (.int 2), some (.int x2), some (.int (nI N))], [], hC0, 0, 0)) (v := some (.int 1)) (hs' := hC0) (c' := 0) (s' := 0) rfl rfl ?_ ?_
  · refine mEnds.steps 8 (q' := (15, [some (.int 2), some (.int 0), some (.int 3)], [.int 1], hC0, 0, 0)) rfl ?_
    exact mEnds.ret rfl
  show mEnds [] 20 100 (6, [some (.ref 1), some (.int 2), some (.int x2), some (.int (nI N))], [.int 1], hC0, 0, 0) _
  refine mEnds.steps 4 (q' := (12, [some (.ref 1), some (.int 2), some (.int x2), some (.int (nI N))], [.int 2, .int 0, .int x2], hC0, 0, 0)) rfl ?_
  refine mEnds.call (d := 19) (y' := 105) (as := [.int x2, .int 0, .int 2]) (q' := (15, [some (.ref 1), some (.int 2), some (.int x2), some (.int (nI N))], [], hC0, 0, 0)) (v := some (.int 1)) (hs' := hC0) (c' := 0) (s' := 0) rfl rfl ?_ ?_
  · refine mEnds.steps 2 (q' := (2, [some (.int x2), some (.int 0), some (.int 2)], [.int 0, .int x2], hC0, 0, 0)) rfl ?_
    refine mEnds.brF (q' := (5, [some (.int x2), some (.int 0), some (.int 2)], [], hC0, 0, 0)) rfl f2 rfl ?_
    refine mEnds.steps 2 (q' := (7, [some (.int x2), some (.int 0), some (.int 2)], [.int 2, .int x2], hC0, 0, 0)) rfl ?_
    refine mEnds.brF (q' := (10, [some (.int x2), some (.int 0), some (.int 2)], [], hC0, 0, 0)) rfl f3 rfl ?_
    refine mEnds.steps 2 (q' := (15, [some (.int x2), some (.int 0), some (.int 2)], [.int 1], hC0, 0, 0)) rfl ?_
    exact mEnds.ret rfl
  show mEnds [] 20 100 (15, [some (.ref 1), some (.int 2), some (.int x2), some (.int (nI N))], [.int 1], hC0, 0, 0) _
  refine mEnds.steps 3 (q' := (21, [some (.ref 1), some (.int 2), some (.int x2), some (.int (nI N))], [.int 40, .int (nI N)], hC0, 0, 0)) rfl ?_
  refine mEnds.brT (q' := (26, [some (.ref 1), some (.int 2), some (.int x2), some (.int (nI N))], [], hC0, 0, 0)) rfl (mtk_le f4) rfl ?_
  refine mEnds.steps 1 (q' := (27, [some (.ref 1), some (.int 2), some (.int x2), some (.int (nI N))], [.int (nI N)], hC0, 0, 0)) rfl ?_
  refine mEnds.brT (q' := (33, [some (.ref 1), some (.int 2), some (.int x2), some (.int (nI N))], [], hC0, 0, 0)) rfl (mtk_ge f5) rfl ?_
  refine mEnds.steps 6 (q' := (41, [some (.ref 1), some (.int 2), some (.int x2), some (.int (nI N))], [.int (nI N), .int x2, .ref 128], hC0, 0, 0)) rfl ?_
  refine mEnds.call (d := 19) (y' := 31) (as := [.ref 128, .int x2, .int (nI N)]) (q' := (44, [some (.ref 1), some (.int 2), some (.int x2), some (.int (nI N))], [], hC0, 0, 0)) (v := none) (hs' := (shC2 x2 N)) (c' := 0) (s' := 0) rfl rfl ?_ ?_
  · exact mEnds.deep (rn2 hN x2) 0
  show mEnds [] 20 100 (44, [some (.ref 1), some (.int 2), some (.int x2), some (.int (nI N))], [], (shC2 x2 N), 0, 0) _
  refine mEnds.steps 1 (q' := (45, [some (.ref 1), some (.int 2), some (.int x2), some (.int (nI N))], [.int 1], (shC2 x2 N), 0, 0)) rfl ?_
  exact mEnds.ret rfl
set_option maxRecDepth 100000 in
theorem m34_FFFFFFv2N (N : Nat) (hN : N ≤ 40) (x2 : Int32) (f2 : decide (x2 < 0) = false) (f3 : decide (2 < x2) = false) (f4 : decide (40 < (nI N)) = false) (f5 : decide ((nI N) < 0) = false) : ∃ hs', mEnds [] 20 179 (mentry 179 [.ref 1, .int 2, .int x2, .int (nI N)] hM0) (some (.int 1), hs', 0, 0) := by
  refine ⟨(shM2 x2 N), ?_⟩
  refine mEnds.steps 4 (q' := (6, [some (.ref 1), some (.int 2), some (.int x2), some (.int (nI N)), none], [.long 3, .long 0, .long 2], hM0, 0, 0)) rfl ?_
  refine mEnds.call (d := 19) (y' := 111) (as := [.long 2, .long 0, .long 3]) (q' := (9, [some (.ref 1), some (.int 2), some (.int x2), some (.int (nI N)), none], [], hM0, 0, 0)) (v := some (.int 1)) (hs' := hM0) (c' := 0) (s' := 0) rfl rfl ?_ ?_
  · refine mEnds.steps 10 (q' := (18, [some (.long 2), none, some (.long 0), none, some (.long 3), none], [.int 1], hM0, 0, 0)) rfl ?_
    exact mEnds.ret rfl
  show mEnds [] 20 179 (9, [some (.ref 1), some (.int 2), some (.int x2), some (.int (nI N)), none], [.int 1], hM0, 0, 0) _
  refine mEnds.steps 5 (q' := (18, [some (.ref 1), some (.int 2), some (.int x2), some (.int (nI N)), none], [.long 2, .long 0, .long x2.toInt64], hM0, 0, 0)) rfl ?_
  refine mEnds.call (d := 19) (y' := 111) (as := [.long x2.toInt64, .long 0, .long 2]) (q' := (21, [some (.ref 1), some (.int 2), some (.int x2), some (.int (nI N)), none], [], hM0, 0, 0)) (v := some (.int 1)) (hs' := hM0) (c' := 0) (s' := 0) rfl rfl ?_ ?_
  · refine mEnds.steps 3 (q' := (3, [some (.long x2.toInt64), none, some (.long 0), none, some (.long 2), none], [.int (lg_cmp x2.toInt64 0)], hM0, 0, 0)) rfl ?_
    refine mEnds.brF (q' := (6, [some (.long x2.toInt64), none, some (.long 0), none, some (.long 2), none], [], hM0, 0, 0)) rfl (lgc_lt (c := 0) (by decide) f2) rfl ?_
    refine mEnds.steps 3 (q' := (10, [some (.long x2.toInt64), none, some (.long 0), none, some (.long 2), none], [.int (lg_cmp x2.toInt64 2)], hM0, 0, 0)) rfl ?_
    refine mEnds.brF (q' := (13, [some (.long x2.toInt64), none, some (.long 0), none, some (.long 2), none], [], hM0, 0, 0)) rfl (lgc_gt (c := 2) (by decide) f3) rfl ?_
    refine mEnds.steps 2 (q' := (18, [some (.long x2.toInt64), none, some (.long 0), none, some (.long 2), none], [.int 1], hM0, 0, 0)) rfl ?_
    exact mEnds.ret rfl
  show mEnds [] 20 179 (21, [some (.ref 1), some (.int 2), some (.int x2), some (.int (nI N)), none], [.int 1], hM0, 0, 0) _
  refine mEnds.steps 3 (q' := (27, [some (.ref 1), some (.int 2), some (.int x2), some (.int (nI N)), none], [.int 40, .int (nI N)], hM0, 0, 0)) rfl ?_
  refine mEnds.brT (q' := (32, [some (.ref 1), some (.int 2), some (.int x2), some (.int (nI N)), none], [], hM0, 0, 0)) rfl (mtk_le f4) rfl ?_
  refine mEnds.steps 1 (q' := (33, [some (.ref 1), some (.int 2), some (.int x2), some (.int (nI N)), none], [.int (nI N)], hM0, 0, 0)) rfl ?_
  refine mEnds.brT (q' := (39, [some (.ref 1), some (.int 2), some (.int x2), some (.int (nI N)), none], [], hM0, 0, 0)) rfl (mtk_ge f5) rfl ?_
  refine mEnds.steps 12 (q' := (56, [some (.ref 1), some (.int 2), some (.int x2), some (.int (nI N)), some (.int 0)], [], ((hM0.set 11 (.inl (0, [(-4), (-4), x2, (-4)]))).set 12 (.inl (0, [0, 0, (nI N), 0]))), 0, 0)) rfl ?_
  exact ml2 x2 N 40 0 (by omega)
set_option maxRecDepth 100000 in
theorem c34_FFFFFFv3N (N : Nat) (hN : N ≤ 40) (x2 : Int32) (f2 : decide (x2 < 0) = false) (f3 : decide (2 < x2) = false) (f4 : decide (40 < (nI N)) = false) (f5 : decide ((nI N) < 0) = false) : ∃ hs', mEnds [] 20 100 (mentry 100 [.ref 1, .int 3, .int x2, .int (nI N)] hC0) (some (.int 1), hs', 0, 0) := by
  refine ⟨(shC3 x2 N), ?_⟩
  refine mEnds.steps 3 (q' := (3, [some (.ref 1), some (.int 3), some (.int x2), some (.int (nI N))], [.int 3, .int 0, .int 3], hC0, 0, 0)) rfl ?_
  refine mEnds.call (d := 19) (y' := 105) (as := [.int 3, .int 0, .int 3]) (q' := (6, [some (.ref 1), some (.int 3), some (.int x2), some (.int (nI N))], [], hC0, 0, 0)) (v := some (.int 1)) (hs' := hC0) (c' := 0) (s' := 0) rfl rfl ?_ ?_
  · refine mEnds.steps 8 (q' := (15, [some (.int 3), some (.int 0), some (.int 3)], [.int 1], hC0, 0, 0)) rfl ?_
    exact mEnds.ret rfl
  show mEnds [] 20 100 (6, [some (.ref 1), some (.int 3), some (.int x2), some (.int (nI N))], [.int 1], hC0, 0, 0) _
  refine mEnds.steps 4 (q' := (12, [some (.ref 1), some (.int 3), some (.int x2), some (.int (nI N))], [.int 2, .int 0, .int x2], hC0, 0, 0)) rfl ?_
  refine mEnds.call (d := 19) (y' := 105) (as := [.int x2, .int 0, .int 2]) (q' := (15, [some (.ref 1), some (.int 3), some (.int x2), some (.int (nI N))], [], hC0, 0, 0)) (v := some (.int 1)) (hs' := hC0) (c' := 0) (s' := 0) rfl rfl ?_ ?_
  · refine mEnds.steps 2 (q' := (2, [some (.int x2), some (.int 0), some (.int 2)], [.int 0, .int x2], hC0, 0, 0)) rfl ?_
    refine mEnds.brF (q' := (5, [some (.int x2), some (.int 0), some (.int 2)], [], hC0, 0, 0)) rfl f2 rfl ?_
    refine mEnds.steps 2 (q' := (7, [some (.int x2), some (.int 0), some (.int 2)], [.int 2, .int x2], hC0, 0, 0)) rfl ?_
    refine mEnds.brF (q' := (10, [some (.int x2), some (.int 0), some (.int 2)], [], hC0, 0, 0)) rfl f3 rfl ?_
    refine mEnds.steps 2 (q' := (15, [some (.int x2), some (.int 0), some (.int 2)], [.int 1], hC0, 0, 0)) rfl ?_
    exact mEnds.ret rfl
  show mEnds [] 20 100 (15, [some (.ref 1), some (.int 3), some (.int x2), some (.int (nI N))], [.int 1], hC0, 0, 0) _
  refine mEnds.steps 3 (q' := (21, [some (.ref 1), some (.int 3), some (.int x2), some (.int (nI N))], [.int 40, .int (nI N)], hC0, 0, 0)) rfl ?_
  refine mEnds.brT (q' := (26, [some (.ref 1), some (.int 3), some (.int x2), some (.int (nI N))], [], hC0, 0, 0)) rfl (mtk_le f4) rfl ?_
  refine mEnds.steps 1 (q' := (27, [some (.ref 1), some (.int 3), some (.int x2), some (.int (nI N))], [.int (nI N)], hC0, 0, 0)) rfl ?_
  refine mEnds.brT (q' := (33, [some (.ref 1), some (.int 3), some (.int x2), some (.int (nI N))], [], hC0, 0, 0)) rfl (mtk_ge f5) rfl ?_
  refine mEnds.steps 6 (q' := (41, [some (.ref 1), some (.int 3), some (.int x2), some (.int (nI N))], [.int (nI N), .int x2, .ref 130], hC0, 0, 0)) rfl ?_
  refine mEnds.call (d := 19) (y' := 31) (as := [.ref 130, .int x2, .int (nI N)]) (q' := (44, [some (.ref 1), some (.int 3), some (.int x2), some (.int (nI N))], [], hC0, 0, 0)) (v := none) (hs' := (shC3 x2 N)) (c' := 0) (s' := 0) rfl rfl ?_ ?_
  · exact mEnds.deep (rn3 hN x2) 0
  show mEnds [] 20 100 (44, [some (.ref 1), some (.int 3), some (.int x2), some (.int (nI N))], [], (shC3 x2 N), 0, 0) _
  refine mEnds.steps 1 (q' := (45, [some (.ref 1), some (.int 3), some (.int x2), some (.int (nI N))], [.int 1], (shC3 x2 N), 0, 0)) rfl ?_
  exact mEnds.ret rfl
set_option maxRecDepth 100000 in
theorem m34_FFFFFFv3N (N : Nat) (hN : N ≤ 40) (x2 : Int32) (f2 : decide (x2 < 0) = false) (f3 : decide (2 < x2) = false) (f4 : decide (40 < (nI N)) = false) (f5 : decide ((nI N) < 0) = false) : ∃ hs', mEnds [] 20 179 (mentry 179 [.ref 1, .int 3, .int x2, .int (nI N)] hM0) (some (.int 1), hs', 0, 0) := by
  refine ⟨(shM3 x2 N), ?_⟩
  refine mEnds.steps 4 (q' := (6, [some (.ref 1), some (.int 3), some (.int x2), some (.int (nI N)), none], [.long 3, .long 0, .long 3], hM0, 0, 0)) rfl ?_
  refine mEnds.call (d := 19) (y' := 111) (as := [.long 3, .long 0, .long 3]) (q' := (9, [some (.ref 1), some (.int 3), some (.int x2), some (.int (nI N)), none], [], hM0, 0, 0)) (v := some (.int 1)) (hs' := hM0) (c' := 0) (s' := 0) rfl rfl ?_ ?_
  · refine mEnds.steps 10 (q' := (18, [some (.long 3), none, some (.long 0), none, some (.long 3), none], [.int 1], hM0, 0, 0)) rfl ?_
    exact mEnds.ret rfl
  show mEnds [] 20 179 (9, [some (.ref 1), some (.int 3), some (.int x2), some (.int (nI N)), none], [.int 1], hM0, 0, 0) _
  refine mEnds.steps 5 (q' := (18, [some (.ref 1), some (.int 3), some (.int x2), some (.int (nI N)), none], [.long 2, .long 0, .long x2.toInt64], hM0, 0, 0)) rfl ?_
  refine mEnds.call (d := 19) (y' := 111) (as := [.long x2.toInt64, .long 0, .long 2]) (q' := (21, [some (.ref 1), some (.int 3), some (.int x2), some (.int (nI N)), none], [], hM0, 0, 0)) (v := some (.int 1)) (hs' := hM0) (c' := 0) (s' := 0) rfl rfl ?_ ?_
  · refine mEnds.steps 3 (q' := (3, [some (.long x2.toInt64), none, some (.long 0), none, some (.long 2), none], [.int (lg_cmp x2.toInt64 0)], hM0, 0, 0)) rfl ?_
    refine mEnds.brF (q' := (6, [some (.long x2.toInt64), none, some (.long 0), none, some (.long 2), none], [], hM0, 0, 0)) rfl (lgc_lt (c := 0) (by decide) f2) rfl ?_
    refine mEnds.steps 3 (q' := (10, [some (.long x2.toInt64), none, some (.long 0), none, some (.long 2), none], [.int (lg_cmp x2.toInt64 2)], hM0, 0, 0)) rfl ?_
    refine mEnds.brF (q' := (13, [some (.long x2.toInt64), none, some (.long 0), none, some (.long 2), none], [], hM0, 0, 0)) rfl (lgc_gt (c := 2) (by decide) f3) rfl ?_
    refine mEnds.steps 2 (q' := (18, [some (.long x2.toInt64), none, some (.long 0), none, some (.long 2), none], [.int 1], hM0, 0, 0)) rfl ?_
    exact mEnds.ret rfl
  show mEnds [] 20 179 (21, [some (.ref 1), some (.int 3), some (.int x2), some (.int (nI N)), none], [.int 1], hM0, 0, 0) _
  refine mEnds.steps 3 (q' := (27, [some (.ref 1), some (.int 3), some (.int x2), some (.int (nI N)), none], [.int 40, .int (nI N)], hM0, 0, 0)) rfl ?_
  refine mEnds.brT (q' := (32, [some (.ref 1), some (.int 3), some (.int x2), some (.int (nI N)), none], [], hM0, 0, 0)) rfl (mtk_le f4) rfl ?_
  refine mEnds.steps 1 (q' := (33, [some (.ref 1), some (.int 3), some (.int x2), some (.int (nI N)), none], [.int (nI N)], hM0, 0, 0)) rfl ?_
  refine mEnds.brT (q' := (39, [some (.ref 1), some (.int 3), some (.int x2), some (.int (nI N)), none], [], hM0, 0, 0)) rfl (mtk_ge f5) rfl ?_
  refine mEnds.steps 12 (q' := (56, [some (.ref 1), some (.int 3), some (.int x2), some (.int (nI N)), some (.int 0)], [], ((hM0.set 11 (.inl (0, [(-4), (-4), (-4), x2]))).set 12 (.inl (0, [0, 0, 0, (nI N)]))), 0, 0)) rfl ?_
  exact ml3 x2 N 40 0 (by omega)
theorem ok_34 (x1 x2 x3 x4 x5 : Int32) : callOK_34 x1 x2 x3 x4 x5 := by
  cases f0 : decide (x1 < 0) with
  | true =>
    obtain ⟨h1, a1⟩ := c34_T x1 x2 x3 f0
    obtain ⟨h2, a2⟩ := m34_T x1 x2 x3 f0
    exact ⟨_, h1, h2, a1, a2⟩
  | false =>
    cases f1 : decide (3 < x1) with
    | true =>
      obtain ⟨h1, a1⟩ := c34_FT x1 x2 x3 f0 f1
      obtain ⟨h2, a2⟩ := m34_FT x1 x2 x3 f0 f1
      exact ⟨_, h1, h2, a1, a2⟩
    | false =>
      cases f2 : decide (x2 < 0) with
      | true =>
        obtain ⟨h1, a1⟩ := c34_FFT x1 x2 x3 f0 f1 f2
        obtain ⟨h2, a2⟩ := m34_FFT x1 x2 x3 f0 f1 f2
        exact ⟨_, h1, h2, a1, a2⟩
      | false =>
        cases f3 : decide (2 < x2) with
        | true =>
          obtain ⟨h1, a1⟩ := c34_FFFT x1 x2 x3 f0 f1 f2 f3
          obtain ⟨h2, a2⟩ := m34_FFFT x1 x2 x3 f0 f1 f2 f3
          exact ⟨_, h1, h2, a1, a2⟩
        | false =>
          cases f4 : decide (40 < x3) with
          | true =>
            obtain ⟨h1, a1⟩ := c34_FFFFT x1 x2 x3 f0 f1 f2 f3 f4
            obtain ⟨h2, a2⟩ := m34_FFFFT x1 x2 x3 f0 f1 f2 f3 f4
            exact ⟨_, h1, h2, a1, a2⟩
          | false =>
            cases f5 : decide (x3 < 0) with
            | true =>
              obtain ⟨h1, a1⟩ := c34_FFFFFT x1 x2 x3 f0 f1 f2 f3 f4 f5
              obtain ⟨h2, a2⟩ := m34_FFFFFT x1 x2 x3 f0 f1 f2 f3 f4 f5
              exact ⟨_, h1, h2, a1, a2⟩
            | false =>
              obtain ⟨k6, hk6, ek6⟩ := i32_rng (n := 4) f0 f1 (by decide)
              clear f0 f1
              match k6, hk6, ek6 with
              | 0, _, e =>
                obtain rfl := i32_at (c := 0) e (by decide)
                obtain ⟨N, hN, eN⟩ := i32_rng (n := 41) f5 f4 (by decide)
                obtain rfl := i32_nI eN (by omega)
                replace hN : N ≤ 40 := by omega
                clear eN
                obtain ⟨h1, a1⟩ := c34_FFFFFFv0N N hN x2 f2 f3 f4 f5
                obtain ⟨h2, a2⟩ := m34_FFFFFFv0N N hN x2 f2 f3 f4 f5
                exact ⟨_, h1, h2, a1, a2⟩
              | 1, _, e =>
                obtain rfl := i32_at (c := 1) e (by decide)
                obtain ⟨N, hN, eN⟩ := i32_rng (n := 41) f5 f4 (by decide)
                obtain rfl := i32_nI eN (by omega)
                replace hN : N ≤ 40 := by omega
                clear eN
                obtain ⟨h1, a1⟩ := c34_FFFFFFv1N N hN x2 f2 f3 f4 f5
                obtain ⟨h2, a2⟩ := m34_FFFFFFv1N N hN x2 f2 f3 f4 f5
                exact ⟨_, h1, h2, a1, a2⟩
              | 2, _, e =>
                obtain rfl := i32_at (c := 2) e (by decide)
                obtain ⟨N, hN, eN⟩ := i32_rng (n := 41) f5 f4 (by decide)
                obtain rfl := i32_nI eN (by omega)
                replace hN : N ≤ 40 := by omega
                clear eN
                obtain ⟨h1, a1⟩ := c34_FFFFFFv2N N hN x2 f2 f3 f4 f5
                obtain ⟨h2, a2⟩ := m34_FFFFFFv2N N hN x2 f2 f3 f4 f5
                exact ⟨_, h1, h2, a1, a2⟩
              | 3, _, e =>
                obtain rfl := i32_at (c := 3) e (by decide)
                obtain ⟨N, hN, eN⟩ := i32_rng (n := 41) f5 f4 (by decide)
                obtain rfl := i32_nI eN (by omega)
                replace hN : N ≤ 40 := by omega
                clear eN
                obtain ⟨h1, a1⟩ := c34_FFFFFFv3N N hN x2 f2 f3 f4 f5
                obtain ⟨h2, a2⟩ := m34_FFFFFFv3N N hN x2 f2 f3 f4 f5
                exact ⟨_, h1, h2, a1, a2⟩
              | k + 4, h, _ => exact absurd h (by omega)
