/-! mean: byFuse on a new object, the case tree -/
theorem cpM : mEnds [] 10 7 (mentry 7 [.ref 44, .ref 2] hC0) (none, hC0, 0, 0) := ⟨200, eqR_ok (by decide +kernel)⟩
set_option maxRecDepth 100000 in
theorem bfl (v w : Int32) {N : Nat} (hN : N ≤ 8) {x : Option Value × mH × Nat × Nat} (K : mEnds [] 19 165 (29, [some (.ref 1), some (.int v), some (.int (-4)), some (.int (nI N)), some (.int 0), some (.int w), some (.long 0), none, some (.long (tp N)), none, some (.int (nI N)), none, none, none, none], [], hM0, 0, 0) x) : ∀ (m k : Nat), k + m = N → mEnds [] 19 165 (9, [some (.ref 1), some (.int v), some (.int (-4)), some (.int (nI N)), some (.int 0), some (.int w), some (.long 0), none, some (.long (tp k)), none, some (.int (nI k)), none, none, none, none], [], hM0, 0, 0) x
  | 0, k, h => by
    have e : k = N := by omega
    subst e
    refine mEnds.steps 2 (q' := (12, [some (.ref 1), some (.int v), some (.int (-4)), some (.int (nI k)), some (.int 0), some (.int w), some (.long 0), none, some (.long (tp k)), none, some (.int (nI k)), none, none, none, none], [.int (nI k), .int (nI k)], hM0, 0, 0)) rfl ?_
    exact mEnds.brT (q' := (29, [some (.ref 1), some (.int v), some (.int (-4)), some (.int (nI k)), some (.int 0), some (.int w), some (.long 0), none, some (.long (tp k)), none, some (.int (nI k)), none, none, none, none], [], hM0, 0, 0)) rfl (decide_eq_true (nI_le (Nat.le_refl k) (by omega))) rfl K
  | m + 1, k, h => by
    refine mEnds.steps 2 (q' := (12, [some (.ref 1), some (.int v), some (.int (-4)), some (.int (nI N)), some (.int 0), some (.int w), some (.long 0), none, some (.long (tp k)), none, some (.int (nI k)), none, none, none, none], [.int (nI N), .int (nI k)], hM0, 0, 0)) rfl ?_
    refine mEnds.brF (q' := (15, [some (.ref 1), some (.int v), some (.int (-4)), some (.int (nI N)), some (.int 0), some (.int w), some (.long 0), none, some (.long (tp k)), none, some (.int (nI k)), none, none, none, none], [], hM0, 0, 0)) rfl (decide_eq_false (nI_ge (by omega) (by omega))) rfl ?_
    refine mEnds.steps 4 (q' := (23, [some (.ref 1), some (.int v), some (.int (-4)), some (.int (nI N)), some (.int 0), some (.int w), some (.long 0), none, some (.long (tp k * 10)), none, some (.int (nI k)), none, none, none, none], [], hM0, 0, 0)) rfl ?_
    rw [tp_s]
    refine mEnds.steps 2 (q' := (9, [some (.ref 1), some (.int v), some (.int (-4)), some (.int (nI N)), some (.int 0), some (.int w), some (.long 0), none, some (.long (tp (k + 1))), none, some (.int (nI k + 1)), none, none, none, none], [], hM0, 0, 0)) rfl ?_
    rw [nI_1]
    exact bfl v w hN K m (k + 1) (by omega)
set_option maxRecDepth 100000 in
theorem bf_run0 (v : Int32) {N : Nat} (hN : N ≤ 8) : mEnds [] 19 165 (mentry 165 [.ref 1, .int v, .int (-4), .int (nI N), .int 0, .int 0] hM0) (some (.long 0), hB N, 0, 0) := by
  refine mEnds.steps 6 (q' := (9, [some (.ref 1), some (.int v), some (.int (-4)), some (.int (nI N)), some (.int 0), some (.int 0), some (.long 0), none, some (.long (tp 0)), none, some (.int (nI 0)), none, none, none, none], [], hM0, 0, 0)) rfl ?_
  refine bfl v 0 hN ?_ N 0 (by omega)
  refine mEnds.steps 2 (q' := (32, [some (.ref 1), some (.int v), some (.int (-4)), some (.int (nI N)), some (.int 0), some (.int 0), some (.long 0), none, some (.long (tp N)), none, some (.int (nI 0)), none, none, none, none], [], hM0, 0, 0)) rfl ?_
  refine ball (N := N) v 0 (tp N) hN (fun o11 o13 o14 => ?_)
  refine mEnds.steps 3 (q' := (186, [some (.ref 1), some (.int v), some (.int (-4)), some (.int (nI N)), some (.int 0), some (.int 0), some (.long 0), none, some (.long (tp N)), none, some (.int (nI (2 ^ N))), o11, none, o13, o14], [.int 0, .long (tp N), .long 0], (hB N), 0, 0)) rfl ?_
  refine mEnds.call (d := 18) (y' := 164) (as := [.long 0, .long (tp N), .int 0]) (q' := (189, [some (.ref 1), some (.int v), some (.int (-4)), some (.int (nI N)), some (.int 0), some (.int 0), some (.long 0), none, some (.long (tp N)), none, some (.int (nI (2 ^ N))), o11, none, o13, o14], [], (hB N), 0, 0)) (v := some (.long 0)) (hs' := hB N) (c' := 0) (s' := 0) rfl rfl (lo_run0 _ hN) ?_
  exact mEnds.ret rfl
set_option maxRecDepth 100000 in
theorem bf_run1 (v : Int32) {N : Nat} (hN : N ≤ 8) : mEnds [] 19 165 (mentry 165 [.ref 1, .int v, .int (-4), .int (nI N), .int 0, .int 1] hM0) (some (.long 1), hB N, 0, 0) := by
  refine mEnds.steps 6 (q' := (9, [some (.ref 1), some (.int v), some (.int (-4)), some (.int (nI N)), some (.int 0), some (.int 1), some (.long 0), none, some (.long (tp 0)), none, some (.int (nI 0)), none, none, none, none], [], hM0, 0, 0)) rfl ?_
  refine bfl v 1 hN ?_ N 0 (by omega)
  refine mEnds.steps 2 (q' := (32, [some (.ref 1), some (.int v), some (.int (-4)), some (.int (nI N)), some (.int 0), some (.int 1), some (.long 0), none, some (.long (tp N)), none, some (.int (nI 0)), none, none, none, none], [], hM0, 0, 0)) rfl ?_
  refine ball (N := N) v 1 (tp N) hN (fun o11 o13 o14 => ?_)
  refine mEnds.steps 3 (q' := (186, [some (.ref 1), some (.int v), some (.int (-4)), some (.int (nI N)), some (.int 0), some (.int 1), some (.long 0), none, some (.long (tp N)), none, some (.int (nI (2 ^ N))), o11, none, o13, o14], [.int 1, .long (tp N), .long 0], (hB N), 0, 0)) rfl ?_
  refine mEnds.call (d := 18) (y' := 164) (as := [.long 0, .long (tp N), .int 1]) (q' := (189, [some (.ref 1), some (.int v), some (.int (-4)), some (.int (nI N)), some (.int 0), some (.int 1), some (.long 0), none, some (.long (tp N)), none, some (.int (nI (2 ^ N))), o11, none, o13, o14], [], (hB N), 0, 0)) (v := some (.long 1)) (hs' := hB N) (c' := 0) (s' := 0) rfl rfl (lo_run1 _ hN) ?_
  exact mEnds.ret rfl
set_option maxRecDepth 100000 in
theorem c25_T (x1 x2 x3 : Int32) (f0 : decide (x1 < 0) = true) : ∃ hs', mEnds [] 20 82 (mentry 82 [.ref 1, .int x1, .int x2, .int x3] hC0) (some (.long (-1)), hs', 0, 0) := by
  refine ⟨hC0, ?_⟩
  refine mEnds.steps 3 (q' := (3, [some (.ref 1), some (.int x1), some (.int x2), some (.int x3)], [.int x3, .int x2, .int x1], hC0, 0, 0)) rfl ?_
  refine mEnds.call (d := 19) (y' := 83) (as := [.int x1, .int x2, .int x3]) (q' := (6, [some (.ref 1), some (.int x1), some (.int x2), some (.int x3)], [], hC0, 0, 0)) (v := some (.int 0)) (hs' := hC0) (c' := 0) (s' := 0) rfl rfl ?_ ?_
  · refine mEnds.steps 3 (q' := (4, [some (.int x1), some (.int x2), some (.int x3)], [.int 10, .int 0, .int x1], hC0, 0, 0)) rfl ?_
    refine mEnds.call (d := 18) (y' := 105) (as := [.int x1, .int 0, .int 10]) (q' := (7, [some (.int x1), some (.int x2), some (.int x3)], [], hC0, 0, 0)) (v := some (.int 0)) (hs' := hC0) (c' := 0) (s' := 0) rfl rfl ?_ ?_
    · refine mEnds.steps 2 (q' := (2, [some (.int x1), some (.int 0), some (.int 10)], [.int 0, .int x1], hC0, 0, 0)) rfl ?_
      refine mEnds.brT (q' := (14, [some (.int x1), some (.int 0), some (.int 10)], [], hC0, 0, 0)) rfl f0 rfl ?_
      refine mEnds.steps 1 (q' := (15, [some (.int x1), some (.int 0), some (.int 10)], [.int 0], hC0, 0, 0)) rfl ?_
      exact mEnds.ret rfl
    show mEnds [] 19 83 (7, [some (.int x1), some (.int x2), some (.int x3)], [.int 0], hC0, 0, 0) _
    refine mEnds.steps 2 (q' := (34, [some (.int x1), some (.int x2), some (.int x3)], [.int 0], hC0, 0, 0)) rfl ?_
    exact mEnds.ret rfl
  show mEnds [] 20 82 (6, [some (.ref 1), some (.int x1), some (.int x2), some (.int x3)], [.int 0], hC0, 0, 0) _
  refine mEnds.steps 2 (q' := (12, [some (.ref 1), some (.int x1), some (.int x2), some (.int x3)], [.long (-1)], hC0, 0, 0)) rfl ?_
  exact mEnds.ret rfl
set_option maxRecDepth 100000 in
theorem m25_T (x1 x2 x3 : Int32) (f0 : decide (x1 < 0) = true) : ∃ hs', mEnds [] 20 167 (mentry 167 [.ref 1, .int x1, .int x2, .int x3] hM0) (some (.long (-1)), hs', 0, 0) := by
  refine ⟨hM0, ?_⟩
  refine mEnds.steps 4 (q' := (6, [some (.ref 1), some (.int x1), some (.int x2), some (.int x3)], [.long 10, .long 0, .long x1.toInt64], hM0, 0, 0)) rfl ?_
  refine mEnds.call (d := 19) (y' := 111) (as := [.long x1.toInt64, .long 0, .long 10]) (q' := (9, [some (.ref 1), some (.int x1), some (.int x2), some (.int x3)], [], hM0, 0, 0)) (v := some (.int 0)) (hs' := hM0) (c' := 0) (s' := 0) rfl rfl ?_ ?_
  · refine mEnds.steps 3 (q' := (3, [some (.long x1.toInt64), none, some (.long 0), none, some (.long 10), none], [.int (lg_cmp x1.toInt64 0)], hM0, 0, 0)) rfl ?_
    refine mEnds.brT (q' := (17, [some (.long x1.toInt64), none, some (.long 0), none, some (.long 10), none], [], hM0, 0, 0)) rfl (lgc_lt (c := 0) (by decide) f0) rfl ?_
    refine mEnds.steps 1 (q' := (18, [some (.long x1.toInt64), none, some (.long 0), none, some (.long 10), none], [.int 0], hM0, 0, 0)) rfl ?_
    exact mEnds.ret rfl
  show mEnds [] 20 167 (9, [some (.ref 1), some (.int x1), some (.int x2), some (.int x3)], [.int 0], hM0, 0, 0) _
  refine mEnds.steps 2 (q' := (50, [some (.ref 1), some (.int x1), some (.int x2), some (.int x3)], [.long (-1)], hM0, 0, 0)) rfl ?_
  exact mEnds.ret rfl
set_option maxRecDepth 100000 in
theorem c25_FT (x1 x2 x3 : Int32) (f0 : decide (x1 < 0) = false) (f1 : decide (10 < x1) = true) : ∃ hs', mEnds [] 20 82 (mentry 82 [.ref 1, .int x1, .int x2, .int x3] hC0) (some (.long (-1)), hs', 0, 0) := by
  refine ⟨hC0, ?_⟩
  refine mEnds.steps 3 (q' := (3, [some (.ref 1), some (.int x1), some (.int x2), some (.int x3)], [.int x3, .int x2, .int x1], hC0, 0, 0)) rfl ?_
  refine mEnds.call (d := 19) (y' := 83) (as := [.int x1, .int x2, .int x3]) (q' := (6, [some (.ref 1), some (.int x1), some (.int x2), some (.int x3)], [], hC0, 0, 0)) (v := some (.int 0)) (hs' := hC0) (c' := 0) (s' := 0) rfl rfl ?_ ?_
  · refine mEnds.steps 3 (q' := (4, [some (.int x1), some (.int x2), some (.int x3)], [.int 10, .int 0, .int x1], hC0, 0, 0)) rfl ?_
    refine mEnds.call (d := 18) (y' := 105) (as := [.int x1, .int 0, .int 10]) (q' := (7, [some (.int x1), some (.int x2), some (.int x3)], [], hC0, 0, 0)) (v := some (.int 0)) (hs' := hC0) (c' := 0) (s' := 0) rfl rfl ?_ ?_
    · refine mEnds.steps 2 (q' := (2, [some (.int x1), some (.int 0), some (.int 10)], [.int 0, .int x1], hC0, 0, 0)) rfl ?_
      refine mEnds.brF (q' := (5, [some (.int x1), some (.int 0), some (.int 10)], [], hC0, 0, 0)) rfl f0 rfl ?_
      refine mEnds.steps 2 (q' := (7, [some (.int x1), some (.int 0), some (.int 10)], [.int 10, .int x1], hC0, 0, 0)) rfl ?_
      refine mEnds.brT (q' := (14, [some (.int x1), some (.int 0), some (.int 10)], [], hC0, 0, 0)) rfl f1 rfl ?_
      refine mEnds.steps 1 (q' := (15, [some (.int x1), some (.int 0), some (.int 10)], [.int 0], hC0, 0, 0)) rfl ?_
      exact mEnds.ret rfl
    show mEnds [] 19 83 (7, [some (.int x1), some (.int x2), some (.int x3)], [.int 0], hC0, 0, 0) _
    refine mEnds.steps 2 (q' := (34, [some (.int x1), some (.int x2), some (.int x3)], [.int 0], hC0, 0, 0)) rfl ?_
    exact mEnds.ret rfl
  show mEnds [] 20 82 (6, [some (.ref 1), some (.int x1), some (.int x2), some (.int x3)], [.int 0], hC0, 0, 0) _
  refine mEnds.steps 2 (q' := (12, [some (.ref 1), some (.int x1), some (.int x2), some (.int x3)], [.long (-1)], hC0, 0, 0)) rfl ?_
  exact mEnds.ret rfl
set_option maxRecDepth 100000 in
theorem m25_FT (x1 x2 x3 : Int32) (f0 : decide (x1 < 0) = false) (f1 : decide (10 < x1) = true) : ∃ hs', mEnds [] 20 167 (mentry 167 [.ref 1, .int x1, .int x2, .int x3] hM0) (some (.long (-1)), hs', 0, 0) := by
  refine ⟨hM0, ?_⟩
  refine mEnds.steps 4 (q' := (6, [some (.ref 1), some (.int x1), some (.int x2), some (.int x3)], [.long 10, .long 0, .long x1.toInt64], hM0, 0, 0)) rfl ?_
  refine mEnds.call (d := 19) (y' := 111) (as := [.long x1.toInt64, .long 0, .long 10]) (q' := (9, [some (.ref 1), some (.int x1), some (.int x2), some (.int x3)], [], hM0, 0, 0)) (v := some (.int 0)) (hs' := hM0) (c' := 0) (s' := 0) rfl rfl ?_ ?_
  · refine mEnds.steps 3 (q' := (3, [some (.long x1.toInt64), none, some (.long 0), none, some (.long 10), none], [.int (lg_cmp x1.toInt64 0)], hM0, 0, 0)) rfl ?_
    refine mEnds.brF (q' := (6, [some (.long x1.toInt64), none, some (.long 0), none, some (.long 10), none], [], hM0, 0, 0)) rfl (lgc_lt (c := 0) (by decide) f0) rfl ?_
    refine mEnds.steps 3 (q' := (10, [some (.long x1.toInt64), none, some (.long 0), none, some (.long 10), none], [.int (lg_cmp x1.toInt64 10)], hM0, 0, 0)) rfl ?_
    refine mEnds.brT (q' := (17, [some (.long x1.toInt64), none, some (.long 0), none, some (.long 10), none], [], hM0, 0, 0)) rfl (lgc_gt (c := 10) (by decide) f1) rfl ?_
    refine mEnds.steps 1 (q' := (18, [some (.long x1.toInt64), none, some (.long 0), none, some (.long 10), none], [.int 0], hM0, 0, 0)) rfl ?_
    exact mEnds.ret rfl
  show mEnds [] 20 167 (9, [some (.ref 1), some (.int x1), some (.int x2), some (.int x3)], [.int 0], hM0, 0, 0) _
  refine mEnds.steps 2 (q' := (50, [some (.ref 1), some (.int x1), some (.int x2), some (.int x3)], [.long (-1)], hM0, 0, 0)) rfl ?_
  exact mEnds.ret rfl
set_option maxRecDepth 100000 in
theorem c25_FFT (x1 x2 x3 : Int32) (f0 : decide (x1 < 0) = false) (f1 : decide (10 < x1) = false) (f2 : decide (x2 < 0) = true) : ∃ hs', mEnds [] 20 82 (mentry 82 [.ref 1, .int x1, .int x2, .int x3] hC0) (some (.long (-1)), hs', 0, 0) := by
  refine ⟨hC0, ?_⟩
  refine mEnds.steps 3 (q' := (3, [some (.ref 1), some (.int x1), some (.int x2), some (.int x3)], [.int x3, .int x2, .int x1], hC0, 0, 0)) rfl ?_
  refine mEnds.call (d := 19) (y' := 83) (as := [.int x1, .int x2, .int x3]) (q' := (6, [some (.ref 1), some (.int x1), some (.int x2), some (.int x3)], [], hC0, 0, 0)) (v := some (.int 0)) (hs' := hC0) (c' := 0) (s' := 0) rfl rfl ?_ ?_
  · refine mEnds.steps 3 (q' := (4, [some (.int x1), some (.int x2), some (.int x3)], [.int 10, .int 0, .int x1], hC0, 0, 0)) rfl ?_
    refine mEnds.call (d := 18) (y' := 105) (as := [.int x1, .int 0, .int 10]) (q' := (7, [some (.int x1), some (.int x2), some (.int x3)], [], hC0, 0, 0)) (v := some (.int 1)) (hs' := hC0) (c' := 0) (s' := 0) rfl rfl ?_ ?_
    · refine mEnds.steps 2 (q' := (2, [some (.int x1), some (.int 0), some (.int 10)], [.int 0, .int x1], hC0, 0, 0)) rfl ?_
      refine mEnds.brF (q' := (5, [some (.int x1), some (.int 0), some (.int 10)], [], hC0, 0, 0)) rfl f0 rfl ?_
      refine mEnds.steps 2 (q' := (7, [some (.int x1), some (.int 0), some (.int 10)], [.int 10, .int x1], hC0, 0, 0)) rfl ?_
      refine mEnds.brF (q' := (10, [some (.int x1), some (.int 0), some (.int 10)], [], hC0, 0, 0)) rfl f1 rfl ?_
      refine mEnds.steps 2 (q' := (15, [some (.int x1), some (.int 0), some (.int 10)], [.int 1], hC0, 0, 0)) rfl ?_
      exact mEnds.ret rfl
    show mEnds [] 19 83 (7, [some (.int x1), some (.int x2), some (.int x3)], [.int 1], hC0, 0, 0) _
    refine mEnds.steps 4 (q' := (14, [some (.int x1), some (.int x2), some (.int x3)], [.int 8, .int 0, .int x2], hC0, 0, 0)) rfl ?_
    refine mEnds.call (d := 18) (y' := 105) (as := [.int x2, .int 0, .int 8]) (q' := (17, [some (.int x1), some (.int x2), some (.int x3)], [], hC0, 0, 0)) (v := some (.int 0)) (hs' := hC0) (c' := 0) (s' := 0) rfl rfl ?_ ?_
    · refine mEnds.steps 2 (q' := (2, [some (.int x2), some (.int 0), some (.int 8)], [.int 0, .int x2], hC0, 0, 0)) rfl ?_
      refine mEnds.brT (q' := (14, [some (.int x2), some (.int 0), some (.int 8)], [], hC0, 0, 0)) rfl f2 rfl ?_
      refine mEnds.steps 1 (q' := (15, [some (.int x2), some (.int 0), some (.int 8)], [.int 0], hC0, 0, 0)) rfl ?_
      exact mEnds.ret rfl
    show mEnds [] 19 83 (17, [some (.int x1), some (.int x2), some (.int x3)], [.int 0], hC0, 0, 0) _
    refine mEnds.steps 2 (q' := (34, [some (.int x1), some (.int x2), some (.int x3)], [.int 0], hC0, 0, 0)) rfl ?_
    exact mEnds.ret rfl
  show mEnds [] 20 82 (6, [some (.ref 1), some (.int x1), some (.int x2), some (.int x3)], [.int 0], hC0, 0, 0) _
  refine mEnds.steps 2 (q' := (12, [some (.ref 1), some (.int x1), some (.int x2), some (.int x3)], [.long (-1)], hC0, 0, 0)) rfl ?_
  exact mEnds.ret rfl
set_option maxRecDepth 100000 in
theorem m25_FFT (x1 x2 x3 : Int32) (f0 : decide (x1 < 0) = false) (f1 : decide (10 < x1) = false) (f2 : decide (x2 < 0) = true) : ∃ hs', mEnds [] 20 167 (mentry 167 [.ref 1, .int x1, .int x2, .int x3] hM0) (some (.long (-1)), hs', 0, 0) := by
  refine ⟨hM0, ?_⟩
  refine mEnds.steps 4 (q' := (6, [some (.ref 1), some (.int x1), some (.int x2), some (.int x3)], [.long 10, .long 0, .long x1.toInt64], hM0, 0, 0)) rfl ?_
  refine mEnds.call (d := 19) (y' := 111) (as := [.long x1.toInt64, .long 0, .long 10]) (q' := (9, [some (.ref 1), some (.int x1), some (.int x2), some (.int x3)], [], hM0, 0, 0)) (v := some (.int 1)) (hs' := hM0) (c' := 0) (s' := 0) rfl rfl ?_ ?_
  · refine mEnds.steps 3 (q' := (3, [some (.long x1.toInt64), none, some (.long 0), none, some (.long 10), none], [.int (lg_cmp x1.toInt64 0)], hM0, 0, 0)) rfl ?_
    refine mEnds.brF (q' := (6, [some (.long x1.toInt64), none, some (.long 0), none, some (.long 10), none], [], hM0, 0, 0)) rfl (lgc_lt (c := 0) (by decide) f0) rfl ?_
    refine mEnds.steps 3 (q' := (10, [some (.long x1.toInt64), none, some (.long 0), none, some (.long 10), none], [.int (lg_cmp x1.toInt64 10)], hM0, 0, 0)) rfl ?_
    refine mEnds.brF (q' := (13, [some (.long x1.toInt64), none, some (.long 0), none, some (.long 10), none], [], hM0, 0, 0)) rfl (lgc_gt (c := 10) (by decide) f1) rfl ?_
    refine mEnds.steps 2 (q' := (18, [some (.long x1.toInt64), none, some (.long 0), none, some (.long 10), none], [.int 1], hM0, 0, 0)) rfl ?_
    exact mEnds.ret rfl
  show mEnds [] 20 167 (9, [some (.ref 1), some (.int x1), some (.int x2), some (.int x3)], [.int 1], hM0, 0, 0) _
  refine mEnds.steps 5 (q' := (18, [some (.ref 1), some (.int x1), some (.int x2), some (.int x3)], [.long 8, .long 0, .long x2.toInt64], hM0, 0, 0)) rfl ?_
  refine mEnds.call (d := 19) (y' := 111) (as := [.long x2.toInt64, .long 0, .long 8]) (q' := (21, [some (.ref 1), some (.int x1), some (.int x2), some (.int x3)], [], hM0, 0, 0)) (v := some (.int 0)) (hs' := hM0) (c' := 0) (s' := 0) rfl rfl ?_ ?_
  · refine mEnds.steps 3 (q' := (3, [some (.long x2.toInt64), none, some (.long 0), none, some (.long 8), none], [.int (lg_cmp x2.toInt64 0)], hM0, 0, 0)) rfl ?_
    refine mEnds.brT (q' := (17, [some (.long x2.toInt64), none, some (.long 0), none, some (.long 8), none], [], hM0, 0, 0)) rfl (lgc_lt (c := 0) (by decide) f2) rfl ?_
    refine mEnds.steps 1 (q' := (18, [some (.long x2.toInt64), none, some (.long 0), none, some (.long 8), none], [.int 0], hM0, 0, 0)) rfl ?_
    exact mEnds.ret rfl
  show mEnds [] 20 167 (21, [some (.ref 1), some (.int x1), some (.int x2), some (.int x3)], [.int 0], hM0, 0, 0) _
  refine mEnds.steps 2 (q' := (50, [some (.ref 1), some (.int x1), some (.int x2), some (.int x3)], [.long (-1)], hM0, 0, 0)) rfl ?_
  exact mEnds.ret rfl
set_option maxRecDepth 100000 in
theorem c25_FFFT (x1 x2 x3 : Int32) (f0 : decide (x1 < 0) = false) (f1 : decide (10 < x1) = false) (f2 : decide (x2 < 0) = false) (f3 : decide (8 < x2) = true) : ∃ hs', mEnds [] 20 82 (mentry 82 [.ref 1, .int x1, .int x2, .int x3] hC0) (some (.long (-1)), hs', 0, 0) := by
  refine ⟨hC0, ?_⟩
  refine mEnds.steps 3 (q' := (3, [some (.ref 1), some (.int x1), some (.int x2), some (.int x3)], [.int x3, .int x2, .int x1], hC0, 0, 0)) rfl ?_
  refine mEnds.call (d := 19) (y' := 83) (as := [.int x1, .int x2, .int x3]) (q' := (6, [some (.ref 1), some (.int x1), some (.int x2), some (.int x3)], [], hC0, 0, 0)) (v := some (.int 0)) (hs' := hC0) (c' := 0) (s' := 0) rfl rfl ?_ ?_
  · refine mEnds.steps 3 (q' := (4, [some (.int x1), some (.int x2), some (.int x3)], [.int 10, .int 0, .int x1], hC0, 0, 0)) rfl ?_
    refine mEnds.call (d := 18) (y' := 105) (as := [.int x1, .int 0, .int 10]) (q' := (7, [some (.int x1), some (.int x2), some (.int x3)], [], hC0, 0, 0)) (v := some (.int 1)) (hs' := hC0) (c' := 0) (s' := 0) rfl rfl ?_ ?_
    · refine mEnds.steps 2 (q' := (2, [some (.int x1), some (.int 0), some (.int 10)], [.int 0, .int x1], hC0, 0, 0)) rfl ?_
      refine mEnds.brF (q' := (5, [some (.int x1), some (.int 0), some (.int 10)], [], hC0, 0, 0)) rfl f0 rfl ?_
      refine mEnds.steps 2 (q' := (7, [some (.int x1), some (.int 0), some (.int 10)], [.int 10, .int x1], hC0, 0, 0)) rfl ?_
      refine mEnds.brF (q' := (10, [some (.int x1), some (.int 0), some (.int 10)], [], hC0, 0, 0)) rfl f1 rfl ?_
      refine mEnds.steps 2 (q' := (15, [some (.int x1), some (.int 0), some (.int 10)], [.int 1], hC0, 0, 0)) rfl ?_
      exact mEnds.ret rfl
    show mEnds [] 19 83 (7, [some (.int x1), some (.int x2), some (.int x3)], [.int 1], hC0, 0, 0) _
    refine mEnds.steps 4 (q' := (14, [some (.int x1), some (.int x2), some (.int x3)], [.int 8, .int 0, .int x2], hC0, 0, 0)) rfl ?_
    refine mEnds.call (d := 18) (y' := 105) (as := [.int x2, .int 0, .int 8]) (q' := (17, [some (.int x1), some (.int x2), some (.int x3)], [], hC0, 0, 0)) (v := some (.int 0)) (hs' := hC0) (c' := 0) (s' := 0) rfl rfl ?_ ?_
    · refine mEnds.steps 2 (q' := (2, [some (.int x2), some (.int 0), some (.int 8)], [.int 0, .int x2], hC0, 0, 0)) rfl ?_
      refine mEnds.brF (q' := (5, [some (.int x2), some (.int 0), some (.int 8)], [], hC0, 0, 0)) rfl f2 rfl ?_
      refine mEnds.steps 2 (q' := (7, [some (.int x2), some (.int 0), some (.int 8)], [.int 8, .int x2], hC0, 0, 0)) rfl ?_
      refine mEnds.brT (q' := (14, [some (.int x2), some (.int 0), some (.int 8)], [], hC0, 0, 0)) rfl f3 rfl ?_
      refine mEnds.steps 1 (q' := (15, [some (.int x2), some (.int 0), some (.int 8)], [.int 0], hC0, 0, 0)) rfl ?_
      exact mEnds.ret rfl
    show mEnds [] 19 83 (17, [some (.int x1), some (.int x2), some (.int x3)], [.int 0], hC0, 0, 0) _
    refine mEnds.steps 2 (q' := (34, [some (.int x1), some (.int x2), some (.int x3)], [.int 0], hC0, 0, 0)) rfl ?_
    exact mEnds.ret rfl
  show mEnds [] 20 82 (6, [some (.ref 1), some (.int x1), some (.int x2), some (.int x3)], [.int 0], hC0, 0, 0) _
  refine mEnds.steps 2 (q' := (12, [some (.ref 1), some (.int x1), some (.int x2), some (.int x3)], [.long (-1)], hC0, 0, 0)) rfl ?_
  exact mEnds.ret rfl
set_option maxRecDepth 100000 in
theorem m25_FFFT (x1 x2 x3 : Int32) (f0 : decide (x1 < 0) = false) (f1 : decide (10 < x1) = false) (f2 : decide (x2 < 0) = false) (f3 : decide (8 < x2) = true) : ∃ hs', mEnds [] 20 167 (mentry 167 [.ref 1, .int x1, .int x2, .int x3] hM0) (some (.long (-1)), hs', 0, 0) := by
  refine ⟨hM0, ?_⟩
  refine mEnds.steps 4 (q' := (6, [some (.ref 1), some (.int x1), some (.int x2), some (.int x3)], [.long 10, .long 0, .long x1.toInt64], hM0, 0, 0)) rfl ?_
  refine mEnds.call (d := 19) (y' := 111) (as := [.long x1.toInt64, .long 0, .long 10]) (q' := (9, [some (.ref 1), some (.int x1), some (.int x2), some (.int x3)], [], hM0, 0, 0)) (v := some (.int 1)) (hs' := hM0) (c' := 0) (s' := 0) rfl rfl ?_ ?_
  · refine mEnds.steps 3 (q' := (3, [some (.long x1.toInt64), none, some (.long 0), none, some (.long 10), none], [.int (lg_cmp x1.toInt64 0)], hM0, 0, 0)) rfl ?_
    refine mEnds.brF (q' := (6, [some (.long x1.toInt64), none, some (.long 0), none, some (.long 10), none], [], hM0, 0, 0)) rfl (lgc_lt (c := 0) (by decide) f0) rfl ?_
    refine mEnds.steps 3 (q' := (10, [some (.long x1.toInt64), none, some (.long 0), none, some (.long 10), none], [.int (lg_cmp x1.toInt64 10)], hM0, 0, 0)) rfl ?_
    refine mEnds.brF (q' := (13, [some (.long x1.toInt64), none, some (.long 0), none, some (.long 10), none], [], hM0, 0, 0)) rfl (lgc_gt (c := 10) (by decide) f1) rfl ?_
    refine mEnds.steps 2 (q' := (18, [some (.long x1.toInt64), none, some (.long 0), none, some (.long 10), none], [.int 1], hM0, 0, 0)) rfl ?_
    exact mEnds.ret rfl
  show mEnds [] 20 167 (9, [some (.ref 1), some (.int x1), some (.int x2), some (.int x3)], [.int 1], hM0, 0, 0) _
  refine mEnds.steps 5 (q' := (18, [some (.ref 1), some (.int x1), some (.int x2), some (.int x3)], [.long 8, .long 0, .long x2.toInt64], hM0, 0, 0)) rfl ?_
  refine mEnds.call (d := 19) (y' := 111) (as := [.long x2.toInt64, .long 0, .long 8]) (q' := (21, [some (.ref 1), some (.int x1), some (.int x2), some (.int x3)], [], hM0, 0, 0)) (v := some (.int 0)) (hs' := hM0) (c' := 0) (s' := 0) rfl rfl ?_ ?_
  · refine mEnds.steps 3 (q' := (3, [some (.long x2.toInt64), none, some (.long 0), none, some (.long 8), none], [.int (lg_cmp x2.toInt64 0)], hM0, 0, 0)) rfl ?_
    refine mEnds.brF (q' := (6, [some (.long x2.toInt64), none, some (.long 0), none, some (.long 8), none], [], hM0, 0, 0)) rfl (lgc_lt (c := 0) (by decide) f2) rfl ?_
    refine mEnds.steps 3 (q' := (10, [some (.long x2.toInt64), none, some (.long 0), none, some (.long 8), none], [.int (lg_cmp x2.toInt64 8)], hM0, 0, 0)) rfl ?_
    refine mEnds.brT (q' := (17, [some (.long x2.toInt64), none, some (.long 0), none, some (.long 8), none], [], hM0, 0, 0)) rfl (lgc_gt (c := 8) (by decide) f3) rfl ?_
    refine mEnds.steps 1 (q' := (18, [some (.long x2.toInt64), none, some (.long 0), none, some (.long 8), none], [.int 0], hM0, 0, 0)) rfl ?_
    exact mEnds.ret rfl
  show mEnds [] 20 167 (21, [some (.ref 1), some (.int x1), some (.int x2), some (.int x3)], [.int 0], hM0, 0, 0) _
  refine mEnds.steps 2 (q' := (50, [some (.ref 1), some (.int x1), some (.int x2), some (.int x3)], [.long (-1)], hM0, 0, 0)) rfl ?_
  exact mEnds.ret rfl
set_option maxRecDepth 100000 in
theorem c25_FFFFT (x1 x2 x3 : Int32) (f0 : decide (x1 < 0) = false) (f1 : decide (10 < x1) = false) (f2 : decide (x2 < 0) = false) (f3 : decide (8 < x2) = false) (f4 : decide (x3 < 0) = true) : ∃ hs', mEnds [] 20 82 (mentry 82 [.ref 1, .int x1, .int x2, .int x3] hC0) (some (.long (-1)), hs', 0, 0) := by
  refine ⟨hC0, ?_⟩
  refine mEnds.steps 3 (q' := (3, [some (.ref 1), some (.int x1), some (.int x2), some (.int x3)], [.int x3, .int x2, .int x1], hC0, 0, 0)) rfl ?_
  refine mEnds.call (d := 19) (y' := 83) (as := [.int x1, .int x2, .int x3]) (q' := (6, [some (.ref 1), some (.int x1), some (.int x2), some (.int x3)], [], hC0, 0, 0)) (v := some (.int 0)) (hs' := hC0) (c' := 0) (s' := 0) rfl rfl ?_ ?_
  · refine mEnds.steps 3 (q' := (4, [some (.int x1), some (.int x2), some (.int x3)], [.int 10, .int 0, .int x1], hC0, 0, 0)) rfl ?_
    refine mEnds.call (d := 18) (y' := 105) (as := [.int x1, .int 0, .int 10]) (q' := (7, [some (.int x1), some (.int x2), some (.int x3)], [], hC0, 0, 0)) (v := some (.int 1)) (hs' := hC0) (c' := 0) (s' := 0) rfl rfl ?_ ?_
    · refine mEnds.steps 2 (q' := (2, [some (.int x1), some (.int 0), some (.int 10)], [.int 0, .int x1], hC0, 0, 0)) rfl ?_
      refine mEnds.brF (q' := (5, [some (.int x1), some (.int 0), some (.int 10)], [], hC0, 0, 0)) rfl f0 rfl ?_
      refine mEnds.steps 2 (q' := (7, [some (.int x1), some (.int 0), some (.int 10)], [.int 10, .int x1], hC0, 0, 0)) rfl ?_
      refine mEnds.brF (q' := (10, [some (.int x1), some (.int 0), some (.int 10)], [], hC0, 0, 0)) rfl f1 rfl ?_
      refine mEnds.steps 2 (q' := (15, [some (.int x1), some (.int 0), some (.int 10)], [.int 1], hC0, 0, 0)) rfl ?_
      exact mEnds.ret rfl
    show mEnds [] 19 83 (7, [some (.int x1), some (.int x2), some (.int x3)], [.int 1], hC0, 0, 0) _
    refine mEnds.steps 4 (q' := (14, [some (.int x1), some (.int x2), some (.int x3)], [.int 8, .int 0, .int x2], hC0, 0, 0)) rfl ?_
    refine mEnds.call (d := 18) (y' := 105) (as := [.int x2, .int 0, .int 8]) (q' := (17, [some (.int x1), some (.int x2), some (.int x3)], [], hC0, 0, 0)) (v := some (.int 1)) (hs' := hC0) (c' := 0) (s' := 0) rfl rfl ?_ ?_
    · refine mEnds.steps 2 (q' := (2, [some (.int x2), some (.int 0), some (.int 8)], [.int 0, .int x2], hC0, 0, 0)) rfl ?_
      refine mEnds.brF (q' := (5, [some (.int x2), some (.int 0), some (.int 8)], [], hC0, 0, 0)) rfl f2 rfl ?_
      refine mEnds.steps 2 (q' := (7, [some (.int x2), some (.int 0), some (.int 8)], [.int 8, .int x2], hC0, 0, 0)) rfl ?_
      refine mEnds.brF (q' := (10, [some (.int x2), some (.int 0), some (.int 8)], [], hC0, 0, 0)) rfl f3 rfl ?_
      refine mEnds.steps 2 (q' := (15, [some (.int x2), some (.int 0), some (.int 8)], [.int 1], hC0, 0, 0)) rfl ?_
      exact mEnds.ret rfl
    show mEnds [] 19 83 (17, [some (.int x1), some (.int x2), some (.int x3)], [.int 1], hC0, 0, 0) _
    refine mEnds.steps 4 (q' := (23, [some (.int x1), some (.int x2), some (.int x3)], [.int 1, .int 0, .int x3], hC0, 0, 0)) rfl ?_
    refine mEnds.call (d := 18) (y' := 105) (as := [.int x3, .int 0, .int 1]) (q' := (26, [some (.int x1), some (.int x2), some (.int x3)], [], hC0, 0, 0)) (v := some (.int 0)) (hs' := hC0) (c' := 0) (s' := 0) rfl rfl ?_ ?_
    · refine mEnds.steps 2 (q' := (2, [some (.int x3), some (.int 0), some (.int 1)], [.int 0, .int x3], hC0, 0, 0)) rfl ?_
      refine mEnds.brT (q' := (14, [some (.int x3), some (.int 0), some (.int 1)], [], hC0, 0, 0)) rfl f4 rfl ?_
      refine mEnds.steps 1 (q' := (15, [some (.int x3), some (.int 0), some (.int 1)], [.int 0], hC0, 0, 0)) rfl ?_
      exact mEnds.ret rfl
    show mEnds [] 19 83 (26, [some (.int x1), some (.int x2), some (.int x3)], [.int 0], hC0, 0, 0) _
    refine mEnds.steps 2 (q' := (34, [some (.int x1), some (.int x2), some (.int x3)], [.int 0], hC0, 0, 0)) rfl ?_
    exact mEnds.ret rfl
  show mEnds [] 20 82 (6, [some (.ref 1), some (.int x1), some (.int x2), some (.int x3)], [.int 0], hC0, 0, 0) _
  refine mEnds.steps 2 (q' := (12, [some (.ref 1), some (.int x1), some (.int x2), some (.int x3)], [.long (-1)], hC0, 0, 0)) rfl ?_
  exact mEnds.ret rfl
set_option maxRecDepth 100000 in
theorem m25_FFFFT (x1 x2 x3 : Int32) (f0 : decide (x1 < 0) = false) (f1 : decide (10 < x1) = false) (f2 : decide (x2 < 0) = false) (f3 : decide (8 < x2) = false) (f4 : decide (x3 < 0) = true) : ∃ hs', mEnds [] 20 167 (mentry 167 [.ref 1, .int x1, .int x2, .int x3] hM0) (some (.long (-1)), hs', 0, 0) := by
  refine ⟨hM0, ?_⟩
  refine mEnds.steps 4 (q' := (6, [some (.ref 1), some (.int x1), some (.int x2), some (.int x3)], [.long 10, .long 0, .long x1.toInt64], hM0, 0, 0)) rfl ?_
  refine mEnds.call (d := 19) (y' := 111) (as := [.long x1.toInt64, .long 0, .long 10]) (q' := (9, [some (.ref 1), some (.int x1), some (.int x2), some (.int x3)], [], hM0, 0, 0)) (v := some (.int 1)) (hs' := hM0) (c' := 0) (s' := 0) rfl rfl ?_ ?_
  · refine mEnds.steps 3 (q' := (3, [some (.long x1.toInt64), none, some (.long 0), none, some (.long 10), none], [.int (lg_cmp x1.toInt64 0)], hM0, 0, 0)) rfl ?_
    refine mEnds.brF (q' := (6, [some (.long x1.toInt64), none, some (.long 0), none, some (.long 10), none], [], hM0, 0, 0)) rfl (lgc_lt (c := 0) (by decide) f0) rfl ?_
    refine mEnds.steps 3 (q' := (10, [some (.long x1.toInt64), none, some (.long 0), none, some (.long 10), none], [.int (lg_cmp x1.toInt64 10)], hM0, 0, 0)) rfl ?_
    refine mEnds.brF (q' := (13, [some (.long x1.toInt64), none, some (.long 0), none, some (.long 10), none], [], hM0, 0, 0)) rfl (lgc_gt (c := 10) (by decide) f1) rfl ?_
    refine mEnds.steps 2 (q' := (18, [some (.long x1.toInt64), none, some (.long 0), none, some (.long 10), none], [.int 1], hM0, 0, 0)) rfl ?_
    exact mEnds.ret rfl
  show mEnds [] 20 167 (9, [some (.ref 1), some (.int x1), some (.int x2), some (.int x3)], [.int 1], hM0, 0, 0) _
  refine mEnds.steps 5 (q' := (18, [some (.ref 1), some (.int x1), some (.int x2), some (.int x3)], [.long 8, .long 0, .long x2.toInt64], hM0, 0, 0)) rfl ?_
  refine mEnds.call (d := 19) (y' := 111) (as := [.long x2.toInt64, .long 0, .long 8]) (q' := (21, [some (.ref 1), some (.int x1), some (.int x2), some (.int x3)], [], hM0, 0, 0)) (v := some (.int 1)) (hs' := hM0) (c' := 0) (s' := 0) rfl rfl ?_ ?_
  · refine mEnds.steps 3 (q' := (3, [some (.long x2.toInt64), none, some (.long 0), none, some (.long 8), none], [.int (lg_cmp x2.toInt64 0)], hM0, 0, 0)) rfl ?_
    refine mEnds.brF (q' := (6, [some (.long x2.toInt64), none, some (.long 0), none, some (.long 8), none], [], hM0, 0, 0)) rfl (lgc_lt (c := 0) (by decide) f2) rfl ?_
    refine mEnds.steps 3 (q' := (10, [some (.long x2.toInt64), none, some (.long 0), none, some (.long 8), none], [.int (lg_cmp x2.toInt64 8)], hM0, 0, 0)) rfl ?_
    refine mEnds.brF (q' := (13, [some (.long x2.toInt64), none, some (.long 0), none, some (.long 8), none], [], hM0, 0, 0)) rfl (lgc_gt (c := 8) (by decide) f3) rfl ?_
    refine mEnds.steps 2 (q' := (18, [some (.long x2.toInt64), none, some (.long 0), none, some (.long 8), none], [.int 1], hM0, 0, 0)) rfl ?_
    exact mEnds.ret rfl
  show mEnds [] 20 167 (21, [some (.ref 1), some (.int x1), some (.int x2), some (.int x3)], [.int 1], hM0, 0, 0) _
  refine mEnds.steps 5 (q' := (28, [some (.ref 1), some (.int x1), some (.int x2), some (.int x3)], [.long 1, .long 0, .long x3.toInt64], hM0, 0, 0)) rfl ?_
  refine mEnds.call (d := 19) (y' := 111) (as := [.long x3.toInt64, .long 0, .long 1]) (q' := (31, [some (.ref 1), some (.int x1), some (.int x2), some (.int x3)], [], hM0, 0, 0)) (v := some (.int 0)) (hs' := hM0) (c' := 0) (s' := 0) rfl rfl ?_ ?_
  · refine mEnds.steps 3 (q' := (3, [some (.long x3.toInt64), none, some (.long 0), none, some (.long 1), none], [.int (lg_cmp x3.toInt64 0)], hM0, 0, 0)) rfl ?_
    refine mEnds.brT (q' := (17, [some (.long x3.toInt64), none, some (.long 0), none, some (.long 1), none], [], hM0, 0, 0)) rfl (lgc_lt (c := 0) (by decide) f4) rfl ?_
    refine mEnds.steps 1 (q' := (18, [some (.long x3.toInt64), none, some (.long 0), none, some (.long 1), none], [.int 0], hM0, 0, 0)) rfl ?_
    exact mEnds.ret rfl
  show mEnds [] 20 167 (31, [some (.ref 1), some (.int x1), some (.int x2), some (.int x3)], [.int 0], hM0, 0, 0) _
  refine mEnds.steps 2 (q' := (50, [some (.ref 1), some (.int x1), some (.int x2), some (.int x3)], [.long (-1)], hM0, 0, 0)) rfl ?_
  exact mEnds.ret rfl
set_option maxRecDepth 100000 in
theorem c25_FFFFFT (x1 x2 x3 : Int32) (f0 : decide (x1 < 0) = false) (f1 : decide (10 < x1) = false) (f2 : decide (x2 < 0) = false) (f3 : decide (8 < x2) = false) (f4 : decide (x3 < 0) = false) (f5 : decide (1 < x3) = true) : ∃ hs', mEnds [] 20 82 (mentry 82 [.ref 1, .int x1, .int x2, .int x3] hC0) (some (.long (-1)), hs', 0, 0) := by
  refine ⟨hC0, ?_⟩
  refine mEnds.steps 3 (q' := (3, [some (.ref 1), some (.int x1), some (.int x2), some (.int x3)], [.int x3, .int x2, .int x1], hC0, 0, 0)) rfl ?_
  refine mEnds.call (d := 19) (y' := 83) (as := [.int x1, .int x2, .int x3]) (q' := (6, [some (.ref 1), some (.int x1), some (.int x2), some (.int x3)], [], hC0, 0, 0)) (v := some (.int 0)) (hs' := hC0) (c' := 0) (s' := 0) rfl rfl ?_ ?_
  · refine mEnds.steps 3 (q' := (4, [some (.int x1), some (.int x2), some (.int x3)], [.int 10, .int 0, .int x1], hC0, 0, 0)) rfl ?_
    refine mEnds.call (d := 18) (y' := 105) (as := [.int x1, .int 0, .int 10]) (q' := (7, [some (.int x1), some (.int x2), some (.int x3)], [], hC0, 0, 0)) (v := some (.int 1)) (hs' := hC0) (c' := 0) (s' := 0) rfl rfl ?_ ?_
    · refine mEnds.steps 2 (q' := (2, [some (.int x1), some (.int 0), some (.int 10)], [.int 0, .int x1], hC0, 0, 0)) rfl ?_
      refine mEnds.brF (q' := (5, [some (.int x1), some (.int 0), some (.int 10)], [], hC0, 0, 0)) rfl f0 rfl ?_
      refine mEnds.steps 2 (q' := (7, [some (.int x1), some (.int 0), some (.int 10)], [.int 10, .int x1], hC0, 0, 0)) rfl ?_
      refine mEnds.brF (q' := (10, [some (.int x1), some (.int 0), some (.int 10)], [], hC0, 0, 0)) rfl f1 rfl ?_
      refine mEnds.steps 2 (q' := (15, [some (.int x1), some (.int 0), some (.int 10)], [.int 1], hC0, 0, 0)) rfl ?_
      exact mEnds.ret rfl
    show mEnds [] 19 83 (7, [some (.int x1), some (.int x2), some (.int x3)], [.int 1], hC0, 0, 0) _
    refine mEnds.steps 4 (q' := (14, [some (.int x1), some (.int x2), some (.int x3)], [.int 8, .int 0, .int x2], hC0, 0, 0)) rfl ?_
    refine mEnds.call (d := 18) (y' := 105) (as := [.int x2, .int 0, .int 8]) (q' := (17, [some (.int x1), some (.int x2), some (.int x3)], [], hC0, 0, 0)) (v := some (.int 1)) (hs' := hC0) (c' := 0) (s' := 0) rfl rfl ?_ ?_
    · refine mEnds.steps 2 (q' := (2, [some (.int x2), some (.int 0), some (.int 8)], [.int 0, .int x2], hC0, 0, 0)) rfl ?_
      refine mEnds.brF (q' := (5, [some (.int x2), some (.int 0), some (.int 8)], [], hC0, 0, 0)) rfl f2 rfl ?_
      refine mEnds.steps 2 (q' := (7, [some (.int x2), some (.int 0), some (.int 8)], [.int 8, .int x2], hC0, 0, 0)) rfl ?_
      refine mEnds.brF (q' := (10, [some (.int x2), some (.int 0), some (.int 8)], [], hC0, 0, 0)) rfl f3 rfl ?_
      refine mEnds.steps 2 (q' := (15, [some (.int x2), some (.int 0), some (.int 8)], [.int 1], hC0, 0, 0)) rfl ?_
      exact mEnds.ret rfl
    show mEnds [] 19 83 (17, [some (.int x1), some (.int x2), some (.int x3)], [.int 1], hC0, 0, 0) _
    refine mEnds.steps 4 (q' := (23, [some (.int x1), some (.int x2), some (.int x3)], [.int 1, .int 0, .int x3], hC0, 0, 0)) rfl ?_
    refine mEnds.call (d := 18) (y' := 105) (as := [.int x3, .int 0, .int 1]) (q' := (26, [some (.int x1), some (.int x2), some (.int x3)], [], hC0, 0, 0)) (v := some (.int 0)) (hs' := hC0) (c' := 0) (s' := 0) rfl rfl ?_ ?_
    · refine mEnds.steps 2 (q' := (2, [some (.int x3), some (.int 0), some (.int 1)], [.int 0, .int x3], hC0, 0, 0)) rfl ?_
      refine mEnds.brF (q' := (5, [some (.int x3), some (.int 0), some (.int 1)], [], hC0, 0, 0)) rfl f4 rfl ?_
      refine mEnds.steps 2 (q' := (7, [some (.int x3), some (.int 0), some (.int 1)], [.int 1, .int x3], hC0, 0, 0)) rfl ?_
      refine mEnds.brT (q' := (14, [some (.int x3), some (.int 0), some (.int 1)], [], hC0, 0, 0)) rfl f5 rfl ?_
      refine mEnds.steps 1 (q' := (15, [some (.int x3), some (.int 0), some (.int 1)], [.int 0], hC0, 0, 0)) rfl ?_
      exact mEnds.ret rfl
    show mEnds [] 19 83 (26, [some (.int x1), some (.int x2), some (.int x3)], [.int 0], hC0, 0, 0) _
    refine mEnds.steps 2 (q' := (34, [some (.int x1), some (.int x2), some (.int x3)], [.int 0], hC0, 0, 0)) rfl ?_
    exact mEnds.ret rfl
  show mEnds [] 20 82 (6, [some (.ref 1), some (.int x1), some (.int x2), some (.int x3)], [.int 0], hC0, 0, 0) _
  refine mEnds.steps 2 (q' := (12, [some (.ref 1), some (.int x1), some (.int x2), some (.int x3)], [.long (-1)], hC0, 0, 0)) rfl ?_
  exact mEnds.ret rfl
set_option maxRecDepth 100000 in
theorem m25_FFFFFT (x1 x2 x3 : Int32) (f0 : decide (x1 < 0) = false) (f1 : decide (10 < x1) = false) (f2 : decide (x2 < 0) = false) (f3 : decide (8 < x2) = false) (f4 : decide (x3 < 0) = false) (f5 : decide (1 < x3) = true) : ∃ hs', mEnds [] 20 167 (mentry 167 [.ref 1, .int x1, .int x2, .int x3] hM0) (some (.long (-1)), hs', 0, 0) := by
  refine ⟨hM0, ?_⟩
  refine mEnds.steps 4 (q' := (6, [some (.ref 1), some (.int x1), some (.int x2), some (.int x3)], [.long 10, .long 0, .long x1.toInt64], hM0, 0, 0)) rfl ?_
  refine mEnds.call (d := 19) (y' := 111) (as := [.long x1.toInt64, .long 0, .long 10]) (q' := (9, [some (.ref 1), some (.int x1), some (.int x2), some (.int x3)], [], hM0, 0, 0)) (v := some (.int 1)) (hs' := hM0) (c' := 0) (s' := 0) rfl rfl ?_ ?_
  · refine mEnds.steps 3 (q' := (3, [some (.long x1.toInt64), none, some (.long 0), none, some (.long 10), none], [.int (lg_cmp x1.toInt64 0)], hM0, 0, 0)) rfl ?_
    refine mEnds.brF (q' := (6, [some (.long x1.toInt64), none, some (.long 0), none, some (.long 10), none], [], hM0, 0, 0)) rfl (lgc_lt (c := 0) (by decide) f0) rfl ?_
    refine mEnds.steps 3 (q' := (10, [some (.long x1.toInt64), none, some (.long 0), none, some (.long 10), none], [.int (lg_cmp x1.toInt64 10)], hM0, 0, 0)) rfl ?_
    refine mEnds.brF (q' := (13, [some (.long x1.toInt64), none, some (.long 0), none, some (.long 10), none], [], hM0, 0, 0)) rfl (lgc_gt (c := 10) (by decide) f1) rfl ?_
    refine mEnds.steps 2 (q' := (18, [some (.long x1.toInt64), none, some (.long 0), none, some (.long 10), none], [.int 1], hM0, 0, 0)) rfl ?_
    exact mEnds.ret rfl
  show mEnds [] 20 167 (9, [some (.ref 1), some (.int x1), some (.int x2), some (.int x3)], [.int 1], hM0, 0, 0) _
  refine mEnds.steps 5 (q' := (18, [some (.ref 1), some (.int x1), some (.int x2), some (.int x3)], [.long 8, .long 0, .long x2.toInt64], hM0, 0, 0)) rfl ?_
  refine mEnds.call (d := 19) (y' := 111) (as := [.long x2.toInt64, .long 0, .long 8]) (q' := (21, [some (.ref 1), some (.int x1), some (.int x2), some (.int x3)], [], hM0, 0, 0)) (v := some (.int 1)) (hs' := hM0) (c' := 0) (s' := 0) rfl rfl ?_ ?_
  · refine mEnds.steps 3 (q' := (3, [some (.long x2.toInt64), none, some (.long 0), none, some (.long 8), none], [.int (lg_cmp x2.toInt64 0)], hM0, 0, 0)) rfl ?_
    refine mEnds.brF (q' := (6, [some (.long x2.toInt64), none, some (.long 0), none, some (.long 8), none], [], hM0, 0, 0)) rfl (lgc_lt (c := 0) (by decide) f2) rfl ?_
    refine mEnds.steps 3 (q' := (10, [some (.long x2.toInt64), none, some (.long 0), none, some (.long 8), none], [.int (lg_cmp x2.toInt64 8)], hM0, 0, 0)) rfl ?_
    refine mEnds.brF (q' := (13, [some (.long x2.toInt64), none, some (.long 0), none, some (.long 8), none], [], hM0, 0, 0)) rfl (lgc_gt (c := 8) (by decide) f3) rfl ?_
    refine mEnds.steps 2 (q' := (18, [some (.long x2.toInt64), none, some (.long 0), none, some (.long 8), none], [.int 1], hM0, 0, 0)) rfl ?_
    exact mEnds.ret rfl
  show mEnds [] 20 167 (21, [some (.ref 1), some (.int x1), some (.int x2), some (.int x3)], [.int 1], hM0, 0, 0) _
  refine mEnds.steps 5 (q' := (28, [some (.ref 1), some (.int x1), some (.int x2), some (.int x3)], [.long 1, .long 0, .long x3.toInt64], hM0, 0, 0)) rfl ?_
  refine mEnds.call (d := 19) (y' := 111) (as := [.long x3.toInt64, .long 0, .long 1]) (q' := (31, [some (.ref 1), some (.int x1), some (.int x2), some (.int x3)], [], hM0, 0, 0)) (v := some (.int 0)) (hs' := hM0) (c' := 0) (s' := 0) rfl rfl ?_ ?_
  · refine mEnds.steps 3 (q' := (3, [some (.long x3.toInt64), none, some (.long 0), none, some (.long 1), none], [.int (lg_cmp x3.toInt64 0)], hM0, 0, 0)) rfl ?_
    refine mEnds.brF (q' := (6, [some (.long x3.toInt64), none, some (.long 0), none, some (.long 1), none], [], hM0, 0, 0)) rfl (lgc_lt (c := 0) (by decide) f4) rfl ?_
    refine mEnds.steps 3 (q' := (10, [some (.long x3.toInt64), none, some (.long 0), none, some (.long 1), none], [.int (lg_cmp x3.toInt64 1)], hM0, 0, 0)) rfl ?_
    refine mEnds.brT (q' := (17, [some (.long x3.toInt64), none, some (.long 0), none, some (.long 1), none], [], hM0, 0, 0)) rfl (lgc_gt (c := 1) (by decide) f5) rfl ?_
    refine mEnds.steps 1 (q' := (18, [some (.long x3.toInt64), none, some (.long 0), none, some (.long 1), none], [.int 0], hM0, 0, 0)) rfl ?_
    exact mEnds.ret rfl
  show mEnds [] 20 167 (31, [some (.ref 1), some (.int x1), some (.int x2), some (.int x3)], [.int 0], hM0, 0, 0) _
  refine mEnds.steps 2 (q' := (50, [some (.ref 1), some (.int x1), some (.int x2), some (.int x3)], [.long (-1)], hM0, 0, 0)) rfl ?_
  exact mEnds.ret rfl
set_option maxRecDepth 100000 in
theorem c25_FFFFFFv0N (N : Nat) (hN : N ≤ 8) (x1 : Int32) (f0 : decide (x1 < 0) = false) (f1 : decide (10 < x1) = false) (f2 : decide ((nI N) < 0) = false) (f3 : decide (8 < (nI N)) = false) : ∃ hs', mEnds [] 20 82 (mentry 82 [.ref 1, .int x1, .int (nI N), .int 0] hC0) (some (.long 0), hs', 0, 0) := by
  obtain ⟨M, -, -, hw⟩ := wg0 (N := N) (m := 0) x1 hN (by omega) (by decide) (by decide)
  rw [hT_0] at hw
  refine ⟨(hT M), ?_⟩
  refine mEnds.steps 3 (q' := (3, [some (.ref 1), some (.int x1), some (.int (nI N)), some (.int 0)], [.int 0, .int (nI N), .int x1], hC0, 0, 0)) rfl ?_
  refine mEnds.call (d := 19) (y' := 83) (as := [.int x1, .int (nI N), .int 0]) (q' := (6, [some (.ref 1), some (.int x1), some (.int (nI N)), some (.int 0)], [], hC0, 0, 0)) (v := some (.int 1)) (hs' := hC0) (c' := 0) (s' := 0) rfl rfl ?_ ?_
  · refine mEnds.steps 3 (q' := (4, [some (.int x1), some (.int (nI N)), some (.int 0)], [.int 10, .int 0, .int x1], hC0, 0, 0)) rfl ?_
    refine mEnds.call (d := 18) (y' := 105) (as := [.int x1, .int 0, .int 10]) (q' := (7, [some (.int x1), some (.int (nI N)), some (.int 0)], [], hC0, 0, 0)) (v := some (.int 1)) (hs' := hC0) (c' := 0) (s' := 0) rfl rfl ?_ ?_
    · refine mEnds.steps 2 (q' := (2, [some (.int x1), some (.int 0), some (.int 10)], [.int 0, .int x1], hC0, 0, 0)) rfl ?_
      refine mEnds.brF (q' := (5, [some (.int x1), some (.int 0), some (.int 10)], [], hC0, 0, 0)) rfl f0 rfl ?_
      refine mEnds.steps 2 (q' := (7, [some (.int x1), some (.int 0), some (.int 10)], [.int 10, .int x1], hC0, 0, 0)) rfl ?_
      refine mEnds.brF (q' := (10, [some (.int x1), some (.int 0), some (.int 10)], [], hC0, 0, 0)) rfl f1 rfl ?_
      refine mEnds.steps 2 (q' := (15, [some (.int x1), some (.int 0), some (.int 10)], [.int 1], hC0, 0, 0)) rfl ?_
      exact mEnds.ret rfl
    show mEnds [] 19 83 (7, [some (.int x1), some (.int (nI N)), some (.int 0)], [.int 1], hC0, 0, 0) _
    refine mEnds.steps 4 (q' := (14, [some (.int x1), some (.int (nI N)), some (.int 0)], [.int 8, .int 0, .int (nI N)], hC0, 0, 0)) rfl ?_
    refine mEnds.call (d := 18) (y' := 105) (as := [.int (nI N), .int 0, .int 8]) (q' := (17, [some (.int x1), some (.int (nI N)), some (.int 0)], [], hC0, 0, 0)) (v := some (.int 1)) (hs' := hC0) (c' := 0) (s' := 0) rfl rfl ?_ ?_
    · refine mEnds.steps 2 (q' := (2, [some (.int (nI N)), some (.int 0), some (.int 8)], [.int 0, .int (nI N)], hC0, 0, 0)) rfl ?_
      refine mEnds.brF (q' := (5, [some (.int (nI N)), some (.int 0), some (.int 8)], [], hC0, 0, 0)) rfl f2 rfl ?_
      refine mEnds.steps 2 (q' := (7, [some (.int (nI N)), some (.int 0), some (.int 8)], [.int 8, .int (nI N)], hC0, 0, 0)) rfl ?_
      refine mEnds.brF (q' := (10, [some (.int (nI N)), some (.int 0), some (.int 8)], [], hC0, 0, 0)) rfl f3 rfl ?_
      refine mEnds.steps 2 (q' := (15, [some (.int (nI N)), some (.int 0), some (.int 8)], [.int 1], hC0, 0, 0)) rfl ?_
      exact mEnds.ret rfl
    show mEnds [] 19 83 (17, [some (.int x1), some (.int (nI N)), some (.int 0)], [.int 1], hC0, 0, 0) _
    refine mEnds.steps 4 (q' := (23, [some (.int x1), some (.int (nI N)), some (.int 0)], [.int 1, .int 0, .int 0], hC0, 0, 0)) rfl ?_
    refine mEnds.call (d := 18) (y' := 105) (as := [.int 0, .int 0, .int 1]) (q' := (26, [some (.int x1), some (.int (nI N)), some (.int 0)], [], hC0, 0, 0)) (v := some (.int 1)) (hs' := hC0) (c' := 0) (s' := 0) rfl rfl ?_ ?_
    · refine mEnds.steps 8 (q' := (15, [some (.int 0), some (.int 0), some (.int 1)], [.int 1], hC0, 0, 0)) rfl ?_
      exact mEnds.ret rfl
    show mEnds [] 19 83 (26, [some (.int x1), some (.int (nI N)), some (.int 0)], [.int 1], hC0, 0, 0) _
    refine mEnds.steps 3 (q' := (34, [some (.int x1), some (.int (nI N)), some (.int 0)], [.int 1], hC0, 0, 0)) rfl ?_
    exact mEnds.ret rfl
  show mEnds [] 20 82 (6, [some (.ref 1), some (.int x1), some (.int (nI N)), some (.int 0)], [.int 1], hC0, 0, 0) _
  refine mEnds.steps 1 (q' := (13, [some (.ref 1), some (.int x1), some (.int (nI N)), some (.int 0)], [], hC0, 0, 0)) rfl ?_
  refine mEnds.steps 6 (q' := (23, [some (.ref 1), some (.int x1), some (.int (nI N)), some (.int 0)], [.ref 2, .ref 44], hC0, 0, 0)) rfl ?_
  refine mEnds.call (d := 19) (y' := 7) (as := [.ref 44, .ref 2]) (q' := (26, [some (.ref 1), some (.int x1), some (.int (nI N)), some (.int 0)], [], hC0, 0, 0)) (v := none) (hs' := hC0) (c' := 0) (s' := 0) rfl rfl (mEnds.deep cpM 9) ?_
  show mEnds [] 20 82 (26, [some (.ref 1), some (.int x1), some (.int (nI N)), some (.int 0)], [], hC0, 0, 0) _
  refine mEnds.steps 6 (q' := (33, [some (.ref 1), some (.int x1), some (.int (nI N)), some (.int 0)], [.int 0, .int (-4), .int x1, .int (nI N), .int 0, .ref 1], hC0, 0, 0)) rfl ?_
  refine mEnds.call (d := 19) (y' := 84) (as := [.ref 1, .int 0, .int (nI N), .int x1, .int (-4), .int 0]) (q' := (36, [some (.ref 1), some (.int x1), some (.int (nI N)), some (.int 0)], [], hC0, 0, 0)) (v := some (.long 0)) (hs' := hT M) (c' := 0) (s' := 0) rfl rfl hw ?_
  show mEnds [] 20 82 (36, [some (.ref 1), some (.int x1), some (.int (nI N)), some (.int 0)], [.long 0], hT M, 0, 0) _
  refine mEnds.steps 1 (q' := (37, [some (.ref 1), some (.int x1), some (.int (nI N)), some (.int 0)], [.int (nI N), .long 0], hT M, 0, 0)) rfl ?_
  refine mEnds.call (d := 19) (y' := 86) (as := [.int (nI N)]) (q' := (40, [some (.ref 1), some (.int x1), some (.int (nI N)), some (.int 0)], [.long 0], hT M, 0, 0)) (v := some (.long (tp N))) (hs' := hT M) (c' := 0) (s' := 0) rfl rfl (mEnds.deep (te_run _ hN) 1) ?_
  show mEnds [] 20 82 (40, [some (.ref 1), some (.int x1), some (.int (nI N)), some (.int 0)], [.long (tp N), .long 0], hT M, 0, 0) _
  refine mEnds.steps 1 (q' := (41, [some (.ref 1), some (.int x1), some (.int (nI N)), some (.int 0)], [.int 0, .long (tp N), .long 0], hT M, 0, 0)) rfl ?_
  refine mEnds.call (d := 19) (y' := 87) (as := [.long 0, .long (tp N), .int 0]) (q' := (44, [some (.ref 1), some (.int x1), some (.int (nI N)), some (.int 0)], [], hT M, 0, 0)) (v := some (.long 0)) (hs' := hT M) (c' := 0) (s' := 0) rfl rfl (mEnds.deep (of_run0 _ hN) 1) ?_
  exact mEnds.ret rfl
set_option maxRecDepth 100000 in
theorem m25_FFFFFFv0N (N : Nat) (hN : N ≤ 8) (x1 : Int32) (f0 : decide (x1 < 0) = false) (f1 : decide (10 < x1) = false) (f2 : decide ((nI N) < 0) = false) (f3 : decide (8 < (nI N)) = false) : ∃ hs', mEnds [] 20 167 (mentry 167 [.ref 1, .int x1, .int (nI N), .int 0] hM0) (some (.long 0), hs', 0, 0) := by
  refine ⟨(hB N), ?_⟩
  refine mEnds.steps 4 (q' := (6, [some (.ref 1), some (.int x1), some (.int (nI N)), some (.int 0)], [.long 10, .long 0, .long x1.toInt64], hM0, 0, 0)) rfl ?_
  refine mEnds.call (d := 19) (y' := 111) (as := [.long x1.toInt64, .long 0, .long 10]) (q' := (9, [some (.ref 1), some (.int x1), some (.int (nI N)), some (.int 0)], [], hM0, 0, 0)) (v := some (.int 1)) (hs' := hM0) (c' := 0) (s' := 0) rfl rfl ?_ ?_
  · refine mEnds.steps 3 (q' := (3, [some (.long x1.toInt64), none, some (.long 0), none, some (.long 10), none], [.int (lg_cmp x1.toInt64 0)], hM0, 0, 0)) rfl ?_
    refine mEnds.brF (q' := (6, [some (.long x1.toInt64), none, some (.long 0), none, some (.long 10), none], [], hM0, 0, 0)) rfl (lgc_lt (c := 0) (by decide) f0) rfl ?_
    refine mEnds.steps 3 (q' := (10, [some (.long x1.toInt64), none, some (.long 0), none, some (.long 10), none], [.int (lg_cmp x1.toInt64 10)], hM0, 0, 0)) rfl ?_
    refine mEnds.brF (q' := (13, [some (.long x1.toInt64), none, some (.long 0), none, some (.long 10), none], [], hM0, 0, 0)) rfl (lgc_gt (c := 10) (by decide) f1) rfl ?_
    refine mEnds.steps 2 (q' := (18, [some (.long x1.toInt64), none, some (.long 0), none, some (.long 10), none], [.int 1], hM0, 0, 0)) rfl ?_
    exact mEnds.ret rfl
  show mEnds [] 20 167 (9, [some (.ref 1), some (.int x1), some (.int (nI N)), some (.int 0)], [.int 1], hM0, 0, 0) _
  refine mEnds.steps 5 (q' := (18, [some (.ref 1), some (.int x1), some (.int (nI N)), some (.int 0)], [.long 8, .long 0, .long (nI N).toInt64], hM0, 0, 0)) rfl ?_
  refine mEnds.call (d := 19) (y' := 111) (as := [.long (nI N).toInt64, .long 0, .long 8]) (q' := (21, [some (.ref 1), some (.int x1), some (.int (nI N)), some (.int 0)], [], hM0, 0, 0)) (v := some (.int 1)) (hs' := hM0) (c' := 0) (s' := 0) rfl rfl ?_ ?_
  · refine mEnds.steps 3 (q' := (3, [some (.long (nI N).toInt64), none, some (.long 0), none, some (.long 8), none], [.int (lg_cmp (nI N).toInt64 0)], hM0, 0, 0)) rfl ?_
    refine mEnds.brF (q' := (6, [some (.long (nI N).toInt64), none, some (.long 0), none, some (.long 8), none], [], hM0, 0, 0)) rfl (lgc_lt (c := 0) (by decide) f2) rfl ?_
    refine mEnds.steps 3 (q' := (10, [some (.long (nI N).toInt64), none, some (.long 0), none, some (.long 8), none], [.int (lg_cmp (nI N).toInt64 8)], hM0, 0, 0)) rfl ?_
    refine mEnds.brF (q' := (13, [some (.long (nI N).toInt64), none, some (.long 0), none, some (.long 8), none], [], hM0, 0, 0)) rfl (lgc_gt (c := 8) (by decide) f3) rfl ?_
    refine mEnds.steps 2 (q' := (18, [some (.long (nI N).toInt64), none, some (.long 0), none, some (.long 8), none], [.int 1], hM0, 0, 0)) rfl ?_
    exact mEnds.ret rfl
  show mEnds [] 20 167 (21, [some (.ref 1), some (.int x1), some (.int (nI N)), some (.int 0)], [.int 1], hM0, 0, 0) _
  refine mEnds.steps 5 (q' := (28, [some (.ref 1), some (.int x1), some (.int (nI N)), some (.int 0)], [.long 1, .long 0, .long 0], hM0, 0, 0)) rfl ?_
  refine mEnds.call (d := 19) (y' := 111) (as := [.long 0, .long 0, .long 1]) (q' := (31, [some (.ref 1), some (.int x1), some (.int (nI N)), some (.int 0)], [], hM0, 0, 0)) (v := some (.int 1)) (hs' := hM0) (c' := 0) (s' := 0) rfl rfl ?_ ?_
  · refine mEnds.steps 10 (q' := (18, [some (.long 0), none, some (.long 0), none, some (.long 1), none], [.int 1], hM0, 0, 0)) rfl ?_
    exact mEnds.ret rfl
  show mEnds [] 20 167 (31, [some (.ref 1), some (.int x1), some (.int (nI N)), some (.int 0)], [.int 1], hM0, 0, 0) _
  refine mEnds.steps 1 (q' := (34, [some (.ref 1), some (.int x1), some (.int (nI N)), some (.int 0)], [], hM0, 0, 0)) rfl ?_
  refine mEnds.steps 6 (q' := (41, [some (.ref 1), some (.int x1), some (.int (nI N)), some (.int 0)], [.int 0, .int 0, .int (nI N), .int (-4), .int x1, .ref 1], hM0, 0, 0)) rfl ?_
  refine mEnds.call (d := 19) (y' := 165) (as := [.ref 1, .int x1, .int (-4), .int (nI N), .int 0, .int 0]) (q' := (44, [some (.ref 1), some (.int x1), some (.int (nI N)), some (.int 0)], [], hM0, 0, 0)) (v := some (.long 0)) (hs' := hB N) (c' := 0) (s' := 0) rfl rfl (bf_run0 x1 hN) ?_
  show mEnds [] 20 167 (44, [some (.ref 1), some (.int x1), some (.int (nI N)), some (.int 0)], [.long 0], hB N, 0, 0) _
  refine mEnds.steps 1 (q' := (50, [some (.ref 1), some (.int x1), some (.int (nI N)), some (.int 0)], [.long 0], hB N, 0, 0)) rfl ?_
  exact mEnds.ret rfl
set_option maxRecDepth 100000 in
theorem c25_FFFFFFv1N (N : Nat) (hN : N ≤ 8) (x1 : Int32) (f0 : decide (x1 < 0) = false) (f1 : decide (10 < x1) = false) (f2 : decide ((nI N) < 0) = false) (f3 : decide (8 < (nI N)) = false) : ∃ hs', mEnds [] 20 82 (mentry 82 [.ref 1, .int x1, .int (nI N), .int 1] hC0) (some (.long 1), hs', 0, 0) := by
  obtain ⟨M, -, -, hw⟩ := wg0 (N := N) (m := 0) x1 hN (by omega) (by decide) (by decide)
  rw [hT_0] at hw
  refine ⟨(hT M), ?_⟩
  refine mEnds.steps 3 (q' := (3, [some (.ref 1), some (.int x1), some (.int (nI N)), some (.int 1)], [.int 1, .int (nI N), .int x1], hC0, 0, 0)) rfl ?_
  refine mEnds.call (d := 19) (y' := 83) (as := [.int x1, .int (nI N), .int 1]) (q' := (6, [some (.ref 1), some (.int x1), some (.int (nI N)), some (.int 1)], [], hC0, 0, 0)) (v := some (.int 1)) (hs' := hC0) (c' := 0) (s' := 0) rfl rfl ?_ ?_
  · refine mEnds.steps 3 (q' := (4, [some (.int x1), some (.int (nI N)), some (.int 1)], [.int 10, .int 0, .int x1], hC0, 0, 0)) rfl ?_
    refine mEnds.call (d := 18) (y' := 105) (as := [.int x1, .int 0, .int 10]) (q' := (7, [some (.int x1), some (.int (nI N)), some (.int 1)], [], hC0, 0, 0)) (v := some (.int 1)) (hs' := hC0) (c' := 0) (s' := 0) rfl rfl ?_ ?_
    · refine mEnds.steps 2 (q' := (2, [some (.int x1), some (.int 0), some (.int 10)], [.int 0, .int x1], hC0, 0, 0)) rfl ?_
      refine mEnds.brF (q' := (5, [some (.int x1), some (.int 0), some (.int 10)], [], hC0, 0, 0)) rfl f0 rfl ?_
      refine mEnds.steps 2 (q' := (7, [some (.int x1), some (.int 0), some (.int 10)], [.int 10, .int x1], hC0, 0, 0)) rfl ?_
      refine mEnds.brF (q' := (10, [some (.int x1), some (.int 0), some (.int 10)], [], hC0, 0, 0)) rfl f1 rfl ?_
      refine mEnds.steps 2 (q' := (15, [some (.int x1), some (.int 0), some (.int 10)], [.int 1], hC0, 0, 0)) rfl ?_
      exact mEnds.ret rfl
    show mEnds [] 19 83 (7, [some (.int x1), some (.int (nI N)), some (.int 1)], [.int 1], hC0, 0, 0) _
    refine mEnds.steps 4 (q' := (14, [some (.int x1), some (.int (nI N)), some (.int 1)], [.int 8, .int 0, .int (nI N)], hC0, 0, 0)) rfl ?_
    refine mEnds.call (d := 18) (y' := 105) (as := [.int (nI N), .int 0, .int 8]) (q' := (17, [some (.int x1), some (.int (nI N)), some (.int 1)], [], hC0, 0, 0)) (v := some (.int 1)) (hs' := hC0) (c' := 0) (s' := 0) rfl rfl ?_ ?_
    · refine mEnds.steps 2 (q' := (2, [some (.int (nI N)), some (.int 0), some (.int 8)], [.int 0, .int (nI N)], hC0, 0, 0)) rfl ?_
      refine mEnds.brF (q' := (5, [some (.int (nI N)), some (.int 0), some (.int 8)], [], hC0, 0, 0)) rfl f2 rfl ?_
      refine mEnds.steps 2 (q' := (7, [some (.int (nI N)), some (.int 0), some (.int 8)], [.int 8, .int (nI N)], hC0, 0, 0)) rfl ?_
      refine mEnds.brF (q' := (10, [some (.int (nI N)), some (.int 0), some (.int 8)], [], hC0, 0, 0)) rfl f3 rfl ?_
      refine mEnds.steps 2 (q' := (15, [some (.int (nI N)), some (.int 0), some (.int 8)], [.int 1], hC0, 0, 0)) rfl ?_
      exact mEnds.ret rfl
    show mEnds [] 19 83 (17, [some (.int x1), some (.int (nI N)), some (.int 1)], [.int 1], hC0, 0, 0) _
    refine mEnds.steps 4 (q' := (23, [some (.int x1), some (.int (nI N)), some (.int 1)], [.int 1, .int 0, .int 1], hC0, 0, 0)) rfl ?_
    refine mEnds.call (d := 18) (y' := 105) (as := [.int 1, .int 0, .int 1]) (q' := (26, [some (.int x1), some (.int (nI N)), some (.int 1)], [], hC0, 0, 0)) (v := some (.int 1)) (hs' := hC0) (c' := 0) (s' := 0) rfl rfl ?_ ?_
    · refine mEnds.steps 8 (q' := (15, [some (.int 1), some (.int 0), some (.int 1)], [.int 1], hC0, 0, 0)) rfl ?_
      exact mEnds.ret rfl
    show mEnds [] 19 83 (26, [some (.int x1), some (.int (nI N)), some (.int 1)], [.int 1], hC0, 0, 0) _
    refine mEnds.steps 3 (q' := (34, [some (.int x1), some (.int (nI N)), some (.int 1)], [.int 1], hC0, 0, 0)) rfl ?_
    exact mEnds.ret rfl
  show mEnds [] 20 82 (6, [some (.ref 1), some (.int x1), some (.int (nI N)), some (.int 1)], [.int 1], hC0, 0, 0) _
  refine mEnds.steps 1 (q' := (13, [some (.ref 1), some (.int x1), some (.int (nI N)), some (.int 1)], [], hC0, 0, 0)) rfl ?_
  refine mEnds.steps 6 (q' := (23, [some (.ref 1), some (.int x1), some (.int (nI N)), some (.int 1)], [.ref 2, .ref 44], hC0, 0, 0)) rfl ?_
  refine mEnds.call (d := 19) (y' := 7) (as := [.ref 44, .ref 2]) (q' := (26, [some (.ref 1), some (.int x1), some (.int (nI N)), some (.int 1)], [], hC0, 0, 0)) (v := none) (hs' := hC0) (c' := 0) (s' := 0) rfl rfl (mEnds.deep cpM 9) ?_
  show mEnds [] 20 82 (26, [some (.ref 1), some (.int x1), some (.int (nI N)), some (.int 1)], [], hC0, 0, 0) _
  refine mEnds.steps 6 (q' := (33, [some (.ref 1), some (.int x1), some (.int (nI N)), some (.int 1)], [.int 0, .int (-4), .int x1, .int (nI N), .int 0, .ref 1], hC0, 0, 0)) rfl ?_
  refine mEnds.call (d := 19) (y' := 84) (as := [.ref 1, .int 0, .int (nI N), .int x1, .int (-4), .int 0]) (q' := (36, [some (.ref 1), some (.int x1), some (.int (nI N)), some (.int 1)], [], hC0, 0, 0)) (v := some (.long 0)) (hs' := hT M) (c' := 0) (s' := 0) rfl rfl hw ?_
  show mEnds [] 20 82 (36, [some (.ref 1), some (.int x1), some (.int (nI N)), some (.int 1)], [.long 0], hT M, 0, 0) _
  refine mEnds.steps 1 (q' := (37, [some (.ref 1), some (.int x1), some (.int (nI N)), some (.int 1)], [.int (nI N), .long 0], hT M, 0, 0)) rfl ?_
  refine mEnds.call (d := 19) (y' := 86) (as := [.int (nI N)]) (q' := (40, [some (.ref 1), some (.int x1), some (.int (nI N)), some (.int 1)], [.long 0], hT M, 0, 0)) (v := some (.long (tp N))) (hs' := hT M) (c' := 0) (s' := 0) rfl rfl (mEnds.deep (te_run _ hN) 1) ?_
  show mEnds [] 20 82 (40, [some (.ref 1), some (.int x1), some (.int (nI N)), some (.int 1)], [.long (tp N), .long 0], hT M, 0, 0) _
  refine mEnds.steps 1 (q' := (41, [some (.ref 1), some (.int x1), some (.int (nI N)), some (.int 1)], [.int 1, .long (tp N), .long 0], hT M, 0, 0)) rfl ?_
  refine mEnds.call (d := 19) (y' := 87) (as := [.long 0, .long (tp N), .int 1]) (q' := (44, [some (.ref 1), some (.int x1), some (.int (nI N)), some (.int 1)], [], hT M, 0, 0)) (v := some (.long 1)) (hs' := hT M) (c' := 0) (s' := 0) rfl rfl (mEnds.deep (of_run1 _ hN) 1) ?_
  exact mEnds.ret rfl
set_option maxRecDepth 100000 in
theorem m25_FFFFFFv1N (N : Nat) (hN : N ≤ 8) (x1 : Int32) (f0 : decide (x1 < 0) = false) (f1 : decide (10 < x1) = false) (f2 : decide ((nI N) < 0) = false) (f3 : decide (8 < (nI N)) = false) : ∃ hs', mEnds [] 20 167 (mentry 167 [.ref 1, .int x1, .int (nI N), .int 1] hM0) (some (.long 1), hs', 0, 0) := by
  refine ⟨(hB N), ?_⟩
  refine mEnds.steps 4 (q' := (6, [some (.ref 1), some (.int x1), some (.int (nI N)), some (.int 1)], [.long 10, .long 0, .long x1.toInt64], hM0, 0, 0)) rfl ?_
  refine mEnds.call (d := 19) (y' := 111) (as := [.long x1.toInt64, .long 0, .long 10]) (q' := (9, [some (.ref 1), some (.int x1), some (.int (nI N)), some (.int 1)], [], hM0, 0, 0)) (v := some (.int 1)) (hs' := hM0) (c' := 0) (s' := 0) rfl rfl ?_ ?_
  · refine mEnds.steps 3 (q' := (3, [some (.long x1.toInt64), none, some (.long 0), none, some (.long 10), none], [.int (lg_cmp x1.toInt64 0)], hM0, 0, 0)) rfl ?_
    refine mEnds.brF (q' := (6, [some (.long x1.toInt64), none, some (.long 0), none, some (.long 10), none], [], hM0, 0, 0)) rfl (lgc_lt (c := 0) (by decide) f0) rfl ?_
    refine mEnds.steps 3 (q' := (10, [some (.long x1.toInt64), none, some (.long 0), none, some (.long 10), none], [.int (lg_cmp x1.toInt64 10)], hM0, 0, 0)) rfl ?_
    refine mEnds.brF (q' := (13, [some (.long x1.toInt64), none, some (.long 0), none, some (.long 10), none], [], hM0, 0, 0)) rfl (lgc_gt (c := 10) (by decide) f1) rfl ?_
    refine mEnds.steps 2 (q' := (18, [some (.long x1.toInt64), none, some (.long 0), none, some (.long 10), none], [.int 1], hM0, 0, 0)) rfl ?_
    exact mEnds.ret rfl
  show mEnds [] 20 167 (9, [some (.ref 1), some (.int x1), some (.int (nI N)), some (.int 1)], [.int 1], hM0, 0, 0) _
  refine mEnds.steps 5 (q' := (18, [some (.ref 1), some (.int x1), some (.int (nI N)), some (.int 1)], [.long 8, .long 0, .long (nI N).toInt64], hM0, 0, 0)) rfl ?_
  refine mEnds.call (d := 19) (y' := 111) (as := [.long (nI N).toInt64, .long 0, .long 8]) (q' := (21, [some (.ref 1), some (.int x1), some (.int (nI N)), some (.int 1)], [], hM0, 0, 0)) (v := some (.int 1)) (hs' := hM0) (c' := 0) (s' := 0) rfl rfl ?_ ?_
  · refine mEnds.steps 3 (q' := (3, [some (.long (nI N).toInt64), none, some (.long 0), none, some (.long 8), none], [.int (lg_cmp (nI N).toInt64 0)], hM0, 0, 0)) rfl ?_
    refine mEnds.brF (q' := (6, [some (.long (nI N).toInt64), none, some (.long 0), none, some (.long 8), none], [], hM0, 0, 0)) rfl (lgc_lt (c := 0) (by decide) f2) rfl ?_
    refine mEnds.steps 3 (q' := (10, [some (.long (nI N).toInt64), none, some (.long 0), none, some (.long 8), none], [.int (lg_cmp (nI N).toInt64 8)], hM0, 0, 0)) rfl ?_
    refine mEnds.brF (q' := (13, [some (.long (nI N).toInt64), none, some (.long 0), none, some (.long 8), none], [], hM0, 0, 0)) rfl (lgc_gt (c := 8) (by decide) f3) rfl ?_
    refine mEnds.steps 2 (q' := (18, [some (.long (nI N).toInt64), none, some (.long 0), none, some (.long 8), none], [.int 1], hM0, 0, 0)) rfl ?_
    exact mEnds.ret rfl
  show mEnds [] 20 167 (21, [some (.ref 1), some (.int x1), some (.int (nI N)), some (.int 1)], [.int 1], hM0, 0, 0) _
  refine mEnds.steps 5 (q' := (28, [some (.ref 1), some (.int x1), some (.int (nI N)), some (.int 1)], [.long 1, .long 0, .long 1], hM0, 0, 0)) rfl ?_
  refine mEnds.call (d := 19) (y' := 111) (as := [.long 1, .long 0, .long 1]) (q' := (31, [some (.ref 1), some (.int x1), some (.int (nI N)), some (.int 1)], [], hM0, 0, 0)) (v := some (.int 1)) (hs' := hM0) (c' := 0) (s' := 0) rfl rfl ?_ ?_
  · refine mEnds.steps 10 (q' := (18, [some (.long 1), none, some (.long 0), none, some (.long 1), none], [.int 1], hM0, 0, 0)) rfl ?_
    exact mEnds.ret rfl
  show mEnds [] 20 167 (31, [some (.ref 1), some (.int x1), some (.int (nI N)), some (.int 1)], [.int 1], hM0, 0, 0) _
  refine mEnds.steps 1 (q' := (34, [some (.ref 1), some (.int x1), some (.int (nI N)), some (.int 1)], [], hM0, 0, 0)) rfl ?_
  refine mEnds.steps 6 (q' := (41, [some (.ref 1), some (.int x1), some (.int (nI N)), some (.int 1)], [.int 1, .int 0, .int (nI N), .int (-4), .int x1, .ref 1], hM0, 0, 0)) rfl ?_
  refine mEnds.call (d := 19) (y' := 165) (as := [.ref 1, .int x1, .int (-4), .int (nI N), .int 0, .int 1]) (q' := (44, [some (.ref 1), some (.int x1), some (.int (nI N)), some (.int 1)], [], hM0, 0, 0)) (v := some (.long 1)) (hs' := hB N) (c' := 0) (s' := 0) rfl rfl (bf_run1 x1 hN) ?_
  show mEnds [] 20 167 (44, [some (.ref 1), some (.int x1), some (.int (nI N)), some (.int 1)], [.long 1], hB N, 0, 0) _
  refine mEnds.steps 1 (q' := (50, [some (.ref 1), some (.int x1), some (.int (nI N)), some (.int 1)], [.long 1], hB N, 0, 0)) rfl ?_
  exact mEnds.ret rfl
theorem ok_25 (x1 x2 x3 x4 x5 : Int32) : callOK_25 x1 x2 x3 x4 x5 := by
  cases f0 : decide (x1 < 0) with
  | true =>
    obtain ⟨h1, a1⟩ := c25_T x1 x2 x3 f0
    obtain ⟨h2, a2⟩ := m25_T x1 x2 x3 f0
    exact ⟨_, h1, h2, a1, a2⟩
  | false =>
    cases f1 : decide (10 < x1) with
    | true =>
      obtain ⟨h1, a1⟩ := c25_FT x1 x2 x3 f0 f1
      obtain ⟨h2, a2⟩ := m25_FT x1 x2 x3 f0 f1
      exact ⟨_, h1, h2, a1, a2⟩
    | false =>
      cases f2 : decide (x2 < 0) with
      | true =>
        obtain ⟨h1, a1⟩ := c25_FFT x1 x2 x3 f0 f1 f2
        obtain ⟨h2, a2⟩ := m25_FFT x1 x2 x3 f0 f1 f2
        exact ⟨_, h1, h2, a1, a2⟩
      | false =>
        cases f3 : decide (8 < x2) with
        | true =>
          obtain ⟨h1, a1⟩ := c25_FFFT x1 x2 x3 f0 f1 f2 f3
          obtain ⟨h2, a2⟩ := m25_FFFT x1 x2 x3 f0 f1 f2 f3
          exact ⟨_, h1, h2, a1, a2⟩
        | false =>
          cases f4 : decide (x3 < 0) with
          | true =>
            obtain ⟨h1, a1⟩ := c25_FFFFT x1 x2 x3 f0 f1 f2 f3 f4
            obtain ⟨h2, a2⟩ := m25_FFFFT x1 x2 x3 f0 f1 f2 f3 f4
            exact ⟨_, h1, h2, a1, a2⟩
          | false =>
            cases f5 : decide (1 < x3) with
            | true =>
              obtain ⟨h1, a1⟩ := c25_FFFFFT x1 x2 x3 f0 f1 f2 f3 f4 f5
              obtain ⟨h2, a2⟩ := m25_FFFFFT x1 x2 x3 f0 f1 f2 f3 f4 f5
              exact ⟨_, h1, h2, a1, a2⟩
            | false =>
              obtain ⟨k6, hk6, ek6⟩ := i32_rng (n := 2) f4 f5 (by decide)
              clear f4 f5
              match k6, hk6, ek6 with
              | 0, _, e =>
                obtain rfl := i32_at (c := 0) e (by decide)
                obtain ⟨N, hN, eN⟩ := i32_rng (n := 9) f2 f3 (by decide)
                obtain rfl := i32_nI eN (by omega)
                replace hN : N ≤ 8 := by omega
                clear eN
                obtain ⟨h1, a1⟩ := c25_FFFFFFv0N N hN x1 f0 f1 f2 f3
                obtain ⟨h2, a2⟩ := m25_FFFFFFv0N N hN x1 f0 f1 f2 f3
                exact ⟨_, h1, h2, a1, a2⟩
              | 1, _, e =>
                obtain rfl := i32_at (c := 1) e (by decide)
                obtain ⟨N, hN, eN⟩ := i32_rng (n := 9) f2 f3 (by decide)
                obtain rfl := i32_nI eN (by omega)
                replace hN : N ≤ 8 := by omega
                clear eN
                obtain ⟨h1, a1⟩ := c25_FFFFFFv1N N hN x1 f0 f1 f2 f3
                obtain ⟨h2, a2⟩ := m25_FFFFFFv1N N hN x1 f0 f1 f2 f3
                exact ⟨_, h1, h2, a1, a2⟩
              | k + 2, h, _ => exact absurd h (by omega)
