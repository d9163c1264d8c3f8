set_option maxRecDepth 100000 in
theorem c24_T (x1 x2 x3 x4 x5 : Int32) (f0 : decide (x1 < 0) = true) : ∃ hs', mEnds [] 20 81 (mentry 81 [.ref 1, .int x1, .int x2, .int x3, .int x4, .int x5] hC0) (some (.long (-1)), hs', 0, 0) := by
  refine ⟨hC0, ?_⟩
  refine mEnds.steps 3 (q' := (4, [some (.ref 1), some (.int x1), some (.int x2), some (.int x3), some (.int x4), some (.int x5)], [.int x5, .int x3, .int x1], hC0, 0, 0)) rfl ?_
  refine mEnds.call (d := 19) (y' := 83) (as := [.int x1, .int x3, .int x5]) (q' := (7, [some (.ref 1), some (.int x1), some (.int x2), some (.int x3), some (.int x4), some (.int x5)], [], hC0, 0, 0)) (v := some (.int 0)) (hs' := hC0) (c' := 0) (s' := 0) rfl rfl ?_ ?_
  · refine mEnds.steps 3 (q' := (4, [some (.int x1), some (.int x3), some (.int x5)], [.int 10, .int 0, .int x1], hC0, 0, 0)) rfl ?_
    refine mEnds.call (d := 18) (y' := 105) (as := [.int x1, .int 0, .int 10]) (q' := (7, [some (.int x1), some (.int x3), some (.int x5)], [], hC0, 0, 0)) (v := some (.int 0)) (hs' := hC0) (c' := 0) (s' := 0) rfl rfl ?_ ?_
    · refine mEnds.steps 2 (q' := (2, [some (.int x1), some (.int 0), some (.int 10)], [.int 0, .int x1], hC0, 0, 0)) rfl ?_
      refine mEnds.brT (q' := (14, [some (.int x1), some (.int 0), some (.int 10)], [], hC0, 0, 0)) rfl f0 rfl ?_
      refine mEnds.steps 1 (q' := (15, [some (.int x1), some (.int 0), some (.int 10)], [.int 0], hC0, 0, 0)) rfl ?_
      exact mEnds.ret rfl
    show mEnds [] 19 83 (7, [some (.int x1), some (.int x3), some (.int x5)], [.int 0], hC0, 0, 0) _
    refine mEnds.steps 2 (q' := (34, [some (.int x1), some (.int x3), some (.int x5)], [.int 0], hC0, 0, 0)) rfl ?_
    exact mEnds.ret rfl
  show mEnds [] 20 81 (7, [some (.ref 1), some (.int x1), some (.int x2), some (.int x3), some (.int x4), some (.int x5)], [.int 0], hC0, 0, 0) _
  refine mEnds.steps 2 (q' := (35, [some (.ref 1), some (.int x1), some (.int x2), some (.int x3), some (.int x4), some (.int x5)], [.long (-1)], hC0, 0, 0)) rfl ?_
  exact mEnds.ret rfl
set_option maxRecDepth 100000 in
theorem m24_T (x1 x2 x3 x4 x5 : Int32) (f0 : decide (x1 < 0) = true) : ∃ hs', mEnds [] 20 166 (mentry 166 [.ref 1, .int x1, .int x2, .int x3, .int x4, .int x5] hM0) (some (.long (-1)), hs', 0, 0) := by
  refine ⟨hM0, ?_⟩
  refine mEnds.steps 4 (q' := (6, [some (.ref 1), some (.int x1), some (.int x2), some (.int x3), some (.int x4), some (.int x5)], [.long 10, .long 0, .long x1.toInt64], hM0, 0, 0)) rfl ?_
  refine mEnds.call (d := 19) (y' := 111) (as := [.long x1.toInt64, .long 0, .long 10]) (q' := (9, [some (.ref 1), some (.int x1), some (.int x2), some (.int x3), some (.int x4), some (.int x5)], [], hM0, 0, 0)) (v := some (.int 0)) (hs' := hM0) (c' := 0) (s' := 0) rfl rfl ?_ ?_
  · refine mEnds.steps 3 (q' := (3, [some (.long x1.toInt64), none, some (.long 0), none, some (.long 10), none], [.int (lg_cmp x1.toInt64 0)], hM0, 0, 0)) rfl ?_
    refine mEnds.brT (q' := (17, [some (.long x1.toInt64), none, some (.long 0), none, some (.long 10), none], [], hM0, 0, 0)) rfl (lgc_lt (c := 0) (by decide) f0) rfl ?_
    refine mEnds.steps 1 (q' := (18, [some (.long x1.toInt64), none, some (.long 0), none, some (.long 10), none], [.int 0], hM0, 0, 0)) rfl ?_
    exact mEnds.ret rfl
  show mEnds [] 20 166 (9, [some (.ref 1), some (.int x1), some (.int x2), some (.int x3), some (.int x4), some (.int x5)], [.int 0], hM0, 0, 0) _
  refine mEnds.steps 2 (q' := (73, [some (.ref 1), some (.int x1), some (.int x2), some (.int x3), some (.int x4), some (.int x5)], [.long (-1)], hM0, 0, 0)) rfl ?_
  exact mEnds.ret rfl
set_option maxRecDepth 100000 in
theorem c24_FT (x1 x2 x3 x4 x5 : Int32) (f0 : decide (x1 < 0) = false) (f1 : decide (10 < x1) = true) : ∃ hs', mEnds [] 20 81 (mentry 81 [.ref 1, .int x1, .int x2, .int x3, .int x4, .int x5] hC0) (some (.long (-1)), hs', 0, 0) := by
  refine ⟨hC0, ?_⟩
  refine mEnds.steps 3 (q' := (4, [some (.ref 1), some (.int x1), some (.int x2), some (.int x3), some (.int x4), some (.int x5)], [.int x5, .int x3, .int x1], hC0, 0, 0)) rfl ?_
  refine mEnds.call (d := 19) (y' := 83) (as := [.int x1, .int x3, .int x5]) (q' := (7, [some (.ref 1), some (.int x1), some (.int x2), some (.int x3), some (.int x4), some (.int x5)], [], hC0, 0, 0)) (v := some (.int 0)) (hs' := hC0) (c' := 0) (s' := 0) rfl rfl ?_ ?_
  · refine mEnds.steps 3 (q' := (4, [some (.int x1), some (.int x3), some (.int x5)], [.int 10, .int 0, .int x1], hC0, 0, 0)) rfl ?_
    refine mEnds.call (d := 18) (y' := 105) (as := [.int x1, .int 0, .int 10]) (q' := (7, [some (.int x1), some (.int x3), some (.int x5)], [], hC0, 0, 0)) (v := some (.int 0)) (hs' := hC0) (c' := 0) (s' := 0) rfl rfl ?_ ?_
    · refine mEnds.steps 2 (q' := (2, [some (.int x1), some (.int 0), some (.int 10)], [.int 0, .int x1], hC0, 0, 0)) rfl ?_
      refine mEnds.brF (q' := (5, [some (.int x1), some (.int 0), some (.int 10)], [], hC0, 0, 0)) rfl f0 rfl ?_
      refine mEnds.steps 2 (q' := (7, [some (.int x1), some (.int 0), some (.int 10)], [.int 10, .int x1], hC0, 0, 0)) rfl ?_
      refine mEnds.brT (q' := (14, [some (.int x1), some (.int 0), some (.int 10)], [], hC0, 0, 0)) rfl f1 rfl ?_
      refine mEnds.steps 1 (q' := (15, [some (.int x1), some (.int 0), some (.int 10)], [.int 0], hC0, 0, 0)) rfl ?_
      exact mEnds.ret rfl
    show mEnds [] 19 83 (7, [some (.int x1), some (.int x3), some (.int x5)], [.int 0], hC0, 0, 0) _
    refine mEnds.steps 2 (q' := (34, [some (.int x1), some (.int x3), some (.int x5)], [.int 0], hC0, 0, 0)) rfl ?_
    exact mEnds.ret rfl
  show mEnds [] 20 81 (7, [some (.ref 1), some (.int x1), some (.int x2), some (.int x3), some (.int x4), some (.int x5)], [.int 0], hC0, 0, 0) _
  refine mEnds.steps 2 (q' := (35, [some (.ref 1), some (.int x1), some (.int x2), some (.int x3), some (.int x4), some (.int x5)], [.long (-1)], hC0, 0, 0)) rfl ?_
  exact mEnds.ret rfl
set_option maxRecDepth 100000 in
theorem m24_FT (x1 x2 x3 x4 x5 : Int32) (f0 : decide (x1 < 0) = false) (f1 : decide (10 < x1) = true) : ∃ hs', mEnds [] 20 166 (mentry 166 [.ref 1, .int x1, .int x2, .int x3, .int x4, .int x5] hM0) (some (.long (-1)), hs', 0, 0) := by
  refine ⟨hM0, ?_⟩
  refine mEnds.steps 4 (q' := (6, [some (.ref 1), some (.int x1), some (.int x2), some (.int x3), some (.int x4), some (.int x5)], [.long 10, .long 0, .long x1.toInt64], hM0, 0, 0)) rfl ?_
  refine mEnds.call (d := 19) (y' := 111) (as := [.long x1.toInt64, .long 0, .long 10]) (q' := (9, [some (.ref 1), some (.int x1), some (.int x2), some (.int x3), some (.int x4), some (.int x5)], [], hM0, 0, 0)) (v := some (.int 0)) (hs' := hM0) (c' := 0) (s' := 0) rfl rfl ?_ ?_
  · refine mEnds.steps 3 (q' := (3, [some (.long x1.toInt64), none, some (.long 0), none, some (.long 10), none], [.int (lg_cmp x1.toInt64 0)], hM0, 0, 0)) rfl ?_
    refine mEnds.brF (q' := (6, [some (.long x1.toInt64), none, some (.long 0), none, some (.long 10), none], [], hM0, 0, 0)) rfl (lgc_lt (c := 0) (by decide) f0) rfl ?_
    refine mEnds.steps 3 (q' := (10, [some (.long x1.toInt64), none, some (.long 0), none, some (.long 10), none], [.int (lg_cmp x1.toInt64 10)], hM0, 0, 0)) rfl ?_
    refine mEnds.brT (q' := (17, [some (.long x1.toInt64), none, some (.long 0), none, some (.long 10), none], [], hM0, 0, 0)) rfl (lgc_gt (c := 10) (by decide) f1) rfl ?_
    refine mEnds.steps 1 (q' := (18, [some (.long x1.toInt64), none, some (.long 0), none, some (.long 10), none], [.int 0], hM0, 0, 0)) rfl ?_
    exact mEnds.ret rfl
  show mEnds [] 20 166 (9, [some (.ref 1), some (.int x1), some (.int x2), some (.int x3), some (.int x4), some (.int x5)], [.int 0], hM0, 0, 0) _
  refine mEnds.steps 2 (q' := (73, [some (.ref 1), some (.int x1), some (.int x2), some (.int x3), some (.int x4), some (.int x5)], [.long (-1)], hM0, 0, 0)) rfl ?_
  exact mEnds.ret rfl
set_option maxRecDepth 100000 in
theorem c24_FFTT (x1 x2 x3 x4 x5 : Int32) (f0 : decide (x1 < 0) = false) (f1 : decide (10 < x1) = false) (f2 : decide (x3 < 0) = true) (f3 : decide (x2 < 0) = true) : ∃ hs', mEnds [] 20 81 (mentry 81 [.ref 1, .int x1, .int x2, .int x3, .int x4, .int x5] hC0) (some (.long (-1)), hs', 0, 0) := by
  refine ⟨hC0, ?_⟩
  refine mEnds.steps 3 (q' := (4, [some (.ref 1), some (.int x1), some (.int x2), some (.int x3), some (.int x4), some (.int x5)], [.int x5, .int x3, .int x1], hC0, 0, 0)) rfl ?_
  refine mEnds.call (d := 19) (y' := 83) (as := [.int x1, .int x3, .int x5]) (q' := (7, [some (.ref 1), some (.int x1), some (.int x2), some (.int x3), some (.int x4), some (.int x5)], [], hC0, 0, 0)) (v := some (.int 0)) (hs' := hC0) (c' := 0) (s' := 0) rfl rfl ?_ ?_
  · refine mEnds.steps 3 (q' := (4, [some (.int x1), some (.int x3), some (.int x5)], [.int 10, .int 0, .int x1], hC0, 0, 0)) rfl ?_
    refine mEnds.call (d := 18) (y' := 105) (as := [.int x1, .int 0, .int 10]) (q' := (7, [some (.int x1), some (.int x3), some (.int x5)], [], hC0, 0, 0)) (v := some (.int 1)) (hs' := hC0) (c' := 0) (s' := 0) rfl rfl ?_ ?_
    · refine mEnds.steps 2 (q' := (2, [some (.int x1), some (.int 0), some (.int 10)], [.int 0, .int x1], hC0, 0, 0)) rfl ?_
      refine mEnds.brF (q' := (5, [some (.int x1), some (.int 0), some (.int 10)], [], hC0, 0, 0)) rfl f0 rfl ?_
      refine mEnds.steps 2 (q' := (7, [some (.int x1), some (.int 0), some (.int 10)], [.int 10, .int x1], hC0, 0, 0)) rfl ?_
      refine mEnds.brF (q' := (10, [some (.int x1), some (.int 0), some (.int 10)], [], hC0, 0, 0)) rfl f1 rfl ?_
      refine mEnds.steps 2 (q' := (15, [some (.int x1), some (.int 0), some (.int 10)], [.int 1], hC0, 0, 0)) rfl ?_
      exact mEnds.ret rfl
    show mEnds [] 19 83 (7, [some (.int x1), some (.int x3), some (.int x5)], [.int 1], hC0, 0, 0) _
    refine mEnds.steps 4 (q' := (14, [some (.int x1), some (.int x3), some (.int x5)], [.int 8, .int 0, .int x3], hC0, 0, 0)) rfl ?_
    refine mEnds.call (d := 18) (y' := 105) (as := [.int x3, .int 0, .int 8]) (q' := (17, [some (.int x1), some (.int x3), some (.int x5)], [], hC0, 0, 0)) (v := some (.int 0)) (hs' := hC0) (c' := 0) (s' := 0) rfl rfl ?_ ?_
    · refine mEnds.steps 2 (q' := (2, [some (.int x3), some (.int 0), some (.int 8)], [.int 0, .int x3], hC0, 0, 0)) rfl ?_
      refine mEnds.brT (q' := (14, [some (.int x3), some (.int 0), some (.int 8)], [], hC0, 0, 0)) rfl f2 rfl ?_
      refine mEnds.steps 1 (q' := (15, [some (.int x3), some (.int 0), some (.int 8)], [.int 0], hC0, 0, 0)) rfl ?_
      exact mEnds.ret rfl
    show mEnds [] 19 83 (17, [some (.int x1), some (.int x3), some (.int x5)], [.int 0], hC0, 0, 0) _
    refine mEnds.steps 2 (q' := (34, [some (.int x1), some (.int x3), some (.int x5)], [.int 0], hC0, 0, 0)) rfl ?_
    exact mEnds.ret rfl
  show mEnds [] 20 81 (7, [some (.ref 1), some (.int x1), some (.int x2), some (.int x3), some (.int x4), some (.int x5)], [.int 0], hC0, 0, 0) _
  refine mEnds.steps 2 (q' := (35, [some (.ref 1), some (.int x1), some (.int x2), some (.int x3), some (.int x4), some (.int x5)], [.long (-1)], hC0, 0, 0)) rfl ?_
  exact mEnds.ret rfl
set_option maxRecDepth 100000 in
theorem m24_FFTT (x1 x2 x3 x4 x5 : Int32) (f0 : decide (x1 < 0) = false) (f1 : decide (10 < x1) = false) (f2 : decide (x3 < 0) = true) (f3 : decide (x2 < 0) = true) : ∃ hs', mEnds [] 20 166 (mentry 166 [.ref 1, .int x1, .int x2, .int x3, .int x4, .int x5] hM0) (some (.long (-1)), hs', 0, 0) := by
  refine ⟨hM0, ?_⟩
  refine mEnds.steps 4 (q' := (6, [some (.ref 1), some (.int x1), some (.int x2), some (.int x3), some (.int x4), some (.int x5)], [.long 10, .long 0, .long x1.toInt64], hM0, 0, 0)) rfl ?_
  refine mEnds.call (d := 19) (y' := 111) (as := [.long x1.toInt64, .long 0, .long 10]) (q' := (9, [some (.ref 1), some (.int x1), some (.int x2), some (.int x3), some (.int x4), some (.int x5)], [], hM0, 0, 0)) (v := some (.int 1)) (hs' := hM0) (c' := 0) (s' := 0) rfl rfl ?_ ?_
  · refine mEnds.steps 3 (q' := (3, [some (.long x1.toInt64), none, some (.long 0), none, some (.long 10), none], [.int (lg_cmp x1.toInt64 0)], hM0, 0, 0)) rfl ?_
    refine mEnds.brF (q' := (6, [some (.long x1.toInt64), none, some (.long 0), none, some (.long 10), none], [], hM0, 0, 0)) rfl (lgc_lt (c := 0) (by decide) f0) rfl ?_
    refine mEnds.steps 3 (q' := (10, [some (.long x1.toInt64), none, some (.long 0), none, some (.long 10), none], [.int (lg_cmp x1.toInt64 10)], hM0, 0, 0)) rfl ?_
    refine mEnds.brF (q' := (13, [some (.long x1.toInt64), none, some (.long 0), none, some (.long 10), none], [], hM0, 0, 0)) rfl (lgc_gt (c := 10) (by decide) f1) rfl ?_
    refine mEnds.steps 2 (q' := (18, [some (.long x1.toInt64), none, some (.long 0), none, some (.long 10), none], [.int 1], hM0, 0, 0)) rfl ?_
    exact mEnds.ret rfl
  show mEnds [] 20 166 (9, [some (.ref 1), some (.int x1), some (.int x2), some (.int x3), some (.int x4), some (.int x5)], [.int 1], hM0, 0, 0) _
  refine mEnds.steps 3 (q' := (14, [some (.ref 1), some (.int x1), some (.int x2), some (.int x3), some (.int x4), some (.int x5)], [.int x2, .ref 1], hM0, 0, 0)) rfl ?_
  refine mEnds.call (d := 19) (y' := 126) (as := [.ref 1, .int x2]) (q' := (17, [some (.ref 1), some (.int x1), some (.int x2), some (.int x3), some (.int x4), some (.int x5)], [], hM0, 0, 0)) (v := some (.int 0)) (hs' := hM0) (c' := 0) (s' := 0) rfl rfl ?_ ?_
  · refine mEnds.steps 8 (q' := (10, [some (.ref 1), some (.int x2)], [.long (-1), .long 0, .long x2.toInt64], hM0, 0, 0)) rfl ?_
    refine mEnds.call (d := 18) (y' := 111) (as := [.long x2.toInt64, .long 0, .long (-1)]) (q' := (13, [some (.ref 1), some (.int x2)], [], hM0, 0, 0)) (v := some (.int 0)) (hs' := hM0) (c' := 0) (s' := 0) rfl rfl ?_ ?_
    · refine mEnds.steps 3 (q' := (3, [some (.long x2.toInt64), none, some (.long 0), none, some (.long (-1)), none], [.int (lg_cmp x2.toInt64 0)], hM0, 0, 0)) rfl ?_
      refine mEnds.brT (q' := (17, [some (.long x2.toInt64), none, some (.long 0), none, some (.long (-1)), none], [], hM0, 0, 0)) rfl (lgc_lt (c := 0) (by decide) f3) rfl ?_
      refine mEnds.steps 1 (q' := (18, [some (.long x2.toInt64), none, some (.long 0), none, some (.long (-1)), none], [.int 0], hM0, 0, 0)) rfl ?_
      exact mEnds.ret rfl
    show mEnds [] 19 126 (13, [some (.ref 1), some (.int x2)], [.int 0], hM0, 0, 0) _
    exact mEnds.ret rfl
  show mEnds [] 20 166 (17, [some (.ref 1), some (.int x1), some (.int x2), some (.int x3), some (.int x4), some (.int x5)], [.int 0], hM0, 0, 0) _
  refine mEnds.steps 2 (q' := (73, [some (.ref 1), some (.int x1), some (.int x2), some (.int x3), some (.int x4), some (.int x5)], [.long (-1)], hM0, 0, 0)) rfl ?_
  exact mEnds.ret rfl
set_option maxRecDepth 100000 in
theorem c24_FFTF (x1 x2 x3 x4 x5 : Int32) (f0 : decide (x1 < 0) = false) (f1 : decide (10 < x1) = false) (f2 : decide (x3 < 0) = true) (f3 : decide (x2 < 0) = false) : ∃ hs', mEnds [] 20 81 (mentry 81 [.ref 1, .int x1, .int x2, .int x3, .int x4, .int x5] hC0) (some (.long (-1)), hs', 0, 0) := by
  refine ⟨hC0, ?_⟩
  refine mEnds.steps 3 (q' := (4, [some (.ref 1), some (.int x1), some (.int x2), some (.int x3), some (.int x4), some (.int x5)], [.int x5, .int x3, .int x1], hC0, 0, 0)) rfl ?_
  refine mEnds.call (d := 19) (y' := 83) (as := [.int x1, .int x3, .int x5]) (q' := (7, [some (.ref 1), some (.int x1), some (.int x2), some (.int x3), some (.int x4), some (.int x5)], [], hC0, 0, 0)) (v := some (.int 0)) (hs' := hC0) (c' := 0) (s' := 0) rfl rfl ?_ ?_
  · refine mEnds.steps 3 (q' := (4, [some (.int x1), some (.int x3), some (.int x5)], [.int 10, .int 0, .int x1], hC0, 0, 0)) rfl ?_
    refine mEnds.call (d := 18) (y' := 105) (as := [.int x1, .int 0, .int 10]) (q' := (7, [some (.int x1), some (.int x3), some (.int x5)], [], hC0, 0, 0)) (v := some (.int 1)) (hs' := hC0) (c' := 0) (s' := 0) rfl rfl ?_ ?_
    · refine mEnds.steps 2 (q' := (2, [some (.int x1), some (.int 0), some (.int 10)], [.int 0, .int x1], hC0, 0, 0)) rfl ?_
      refine mEnds.brF (q' := (5, [some (.int x1), some (.int 0), some (.int 10)], [], hC0, 0, 0)) rfl f0 rfl ?_
      refine mEnds.steps 2 (q' := (7, [some (.int x1), some (.int 0), some (.int 10)], [.int 10, .int x1], hC0, 0, 0)) rfl ?_
      refine mEnds.brF (q' := (10, [some (.int x1), some (.int 0), some (.int 10)], [], hC0, 0, 0)) rfl f1 rfl ?_
      refine mEnds.steps 2 (q' := (15, [some (.int x1), some (.int 0), some (.int 10)], [.int 1], hC0, 0, 0)) rfl ?_
      exact mEnds.ret rfl
    show mEnds [] 19 83 (7, [some (.int x1), some (.int x3), some (.int x5)], [.int 1], hC0, 0, 0) _
    refine mEnds.steps 4 (q' := (14, [some (.int x1), some (.int x3), some (.int x5)], [.int 8, .int 0, .int x3], hC0, 0, 0)) rfl ?_
    refine mEnds.call (d := 18) (y' := 105) (as := [.int x3, .int 0, .int 8]) (q' := (17, [some (.int x1), some (.int x3), some (.int x5)], [], hC0, 0, 0)) (v := some (.int 0)) (hs' := hC0) (c' := 0) (s' := 0) rfl rfl ?_ ?_
    · refine mEnds.steps 2 (q' := (2, [some (.int x3), some (.int 0), some (.int 8)], [.int 0, .int x3], hC0, 0, 0)) rfl ?_
      refine mEnds.brT (q' := (14, [some (.int x3), some (.int 0), some (.int 8)], [], hC0, 0, 0)) rfl f2 rfl ?_
      refine mEnds.steps 1 (q' := (15, [some (.int x3), some (.int 0), some (.int 8)], [.int 0], hC0, 0, 0)) rfl ?_
      exact mEnds.ret rfl
    show mEnds [] 19 83 (17, [some (.int x1), some (.int x3), some (.int x5)], [.int 0], hC0, 0, 0) _
    refine mEnds.steps 2 (q' := (34, [some (.int x1), some (.int x3), some (.int x5)], [.int 0], hC0, 0, 0)) rfl ?_
    exact mEnds.ret rfl
  show mEnds [] 20 81 (7, [some (.ref 1), some (.int x1), some (.int x2), some (.int x3), some (.int x4), some (.int x5)], [.int 0], hC0, 0, 0) _
  refine mEnds.steps 2 (q' := (35, [some (.ref 1), some (.int x1), some (.int x2), some (.int x3), some (.int x4), some (.int x5)], [.long (-1)], hC0, 0, 0)) rfl ?_
  exact mEnds.ret rfl
set_option maxRecDepth 100000 in
theorem m24_FFTF (x1 x2 x3 x4 x5 : Int32) (f0 : decide (x1 < 0) = false) (f1 : decide (10 < x1) = false) (f2 : decide (x3 < 0) = true) (f3 : decide (x2 < 0) = false) : ∃ hs', mEnds [] 20 166 (mentry 166 [.ref 1, .int x1, .int x2, .int x3, .int x4, .int x5] hM0) (some (.long (-1)), hs', 0, 0) := by
  refine ⟨hM0, ?_⟩
  refine mEnds.steps 4 (q' := (6, [some (.ref 1), some (.int x1), some (.int x2), some (.int x3), some (.int x4), some (.int x5)], [.long 10, .long 0, .long x1.toInt64], hM0, 0, 0)) rfl ?_
  refine mEnds.call (d := 19) (y' := 111) (as := [.long x1.toInt64, .long 0, .long 10]) (q' := (9, [some (.ref 1), some (.int x1), some (.int x2), some (.int x3), some (.int x4), some (.int x5)], [], hM0, 0, 0)) (v := some (.int 1)) (hs' := hM0) (c' := 0) (s' := 0) rfl rfl ?_ ?_
  · refine mEnds.steps 3 (q' := (3, [some (.long x1.toInt64), none, some (.long 0), none, some (.long 10), none], [.int (lg_cmp x1.toInt64 0)], hM0, 0, 0)) rfl ?_
    refine mEnds.brF (q' := (6, [some (.long x1.toInt64), none, some (.long 0), none, some (.long 10), none], [], hM0, 0, 0)) rfl (lgc_lt (c := 0) (by decide) f0) rfl ?_
    refine mEnds.steps 3 (q' := (10, [some (.long x1.toInt64), none, some (.long 0), none, some (.long 10), none], [.int (lg_cmp x1.toInt64 10)], hM0, 0, 0)) rfl ?_
    refine mEnds.brF (q' := (13, [some (.long x1.toInt64), none, some (.long 0), none, some (.long 10), none], [], hM0, 0, 0)) rfl (lgc_gt (c := 10) (by decide) f1) rfl ?_
    refine mEnds.steps 2 (q' := (18, [some (.long x1.toInt64), none, some (.long 0), none, some (.long 10), none], [.int 1], hM0, 0, 0)) rfl ?_
    exact mEnds.ret rfl
  show mEnds [] 20 166 (9, [some (.ref 1), some (.int x1), some (.int x2), some (.int x3), some (.int x4), some (.int x5)], [.int 1], hM0, 0, 0) _
  refine mEnds.steps 3 (q' := (14, [some (.ref 1), some (.int x1), some (.int x2), some (.int x3), some (.int x4), some (.int x5)], [.int x2, .ref 1], hM0, 0, 0)) rfl ?_
  refine mEnds.call (d := 19) (y' := 126) (as := [.ref 1, .int x2]) (q' := (17, [some (.ref 1), some (.int x1), some (.int x2), some (.int x3), some (.int x4), some (.int x5)], [], hM0, 0, 0)) (v := some (.int 0)) (hs' := hM0) (c' := 0) (s' := 0) rfl rfl ?_ ?_
  · refine mEnds.steps 8 (q' := (10, [some (.ref 1), some (.int x2)], [.long (-1), .long 0, .long x2.toInt64], hM0, 0, 0)) rfl ?_
    refine mEnds.call (d := 18) (y' := 111) (as := [.long x2.toInt64, .long 0, .long (-1)]) (q' := (13, [some (.ref 1), some (.int x2)], [], hM0, 0, 0)) (v := some (.int 0)) (hs' := hM0) (c' := 0) (s' := 0) rfl rfl ?_ ?_
    · refine mEnds.steps 3 (q' := (3, [some (.long x2.toInt64), none, some (.long 0), none, some (.long (-1)), none], [.int (lg_cmp x2.toInt64 0)], hM0, 0, 0)) rfl ?_
      refine mEnds.brF (q' := (6, [some (.long x2.toInt64), none, some (.long 0), none, some (.long (-1)), none], [], hM0, 0, 0)) rfl (lgc_lt (c := 0) (by decide) f3) rfl ?_
      refine mEnds.steps 3 (q' := (10, [some (.long x2.toInt64), none, some (.long 0), none, some (.long (-1)), none], [.int (lg_cmp x2.toInt64 (-1))], hM0, 0, 0)) rfl ?_
      refine mEnds.brT (q' := (17, [some (.long x2.toInt64), none, some (.long 0), none, some (.long (-1)), none], [], hM0, 0, 0)) rfl (lgc_gt (c := (-1)) (by decide) (ltF_gtT f3 (by decide))) rfl ?_
      refine mEnds.steps 1 (q' := (18, [some (.long x2.toInt64), none, some (.long 0), none, some (.long (-1)), none], [.int 0], hM0, 0, 0)) rfl ?_
      exact mEnds.ret rfl
    show mEnds [] 19 126 (13, [some (.ref 1), some (.int x2)], [.int 0], hM0, 0, 0) _
    exact mEnds.ret rfl
  show mEnds [] 20 166 (17, [some (.ref 1), some (.int x1), some (.int x2), some (.int x3), some (.int x4), some (.int x5)], [.int 0], hM0, 0, 0) _
  refine mEnds.steps 2 (q' := (73, [some (.ref 1), some (.int x1), some (.int x2), some (.int x3), some (.int x4), some (.int x5)], [.long (-1)], hM0, 0, 0)) rfl ?_
  exact mEnds.ret rfl
set_option maxRecDepth 100000 in
theorem c24_FFFTT (x1 x2 x3 x4 x5 : Int32) (f0 : decide (x1 < 0) = false) (f1 : decide (10 < x1) = false) (f2 : decide (x3 < 0) = false) (f3 : decide (8 < x3) = true) (f4 : decide (x2 < 0) = true) : ∃ hs', mEnds [] 20 81 (mentry 81 [.ref 1, .int x1, .int x2, .int x3, .int x4, .int x5] hC0) (some (.long (-1)), hs', 0, 0) := by
  refine ⟨hC0, ?_⟩
  refine mEnds.steps 3 (q' := (4, [some (.ref 1), some (.int x1), some (.int x2), some (.int x3), some (.int x4), some (.int x5)], [.int x5, .int x3, .int x1], hC0, 0, 0)) rfl ?_
  refine mEnds.call (d := 19) (y' := 83) (as := [.int x1, .int x3, .int x5]) (q' := (7, [some (.ref 1), some (.int x1), some (.int x2), some (.int x3), some (.int x4), some (.int x5)], [], hC0, 0, 0)) (v := some (.int 0)) (hs' := hC0) (c' := 0) (s' := 0) rfl rfl ?_ ?_
  · refine mEnds.steps 3 (q' := (4, [some (.int x1), some (.int x3), some (.int x5)], [.int 10, .int 0, .int x1], hC0, 0, 0)) rfl ?_
    refine mEnds.call (d := 18) (y' := 105) (as := [.int x1, .int 0, .int 10]) (q' := (7, [some (.int x1), some (.int x3), some (.int x5)], [], hC0, 0, 0)) (v := some (.int 1)) (hs' := hC0) (c' := 0) (s' := 0) rfl rfl ?_ ?_
    · refine mEnds.steps 2 (q' := (2, [some (.int x1), some (.int 0), some (.int 10)], [.int 0, .int x1], hC0, 0, 0)) rfl ?_
      refine mEnds.brF (q' := (5, [some (.int x1), some (.int 0), some (.int 10)], [], hC0, 0, 0)) rfl f0 rfl ?_
      refine mEnds.steps 2 (q' := (7, [some (.int x1), some (.int 0), some (.int 10)], [.int 10, .int x1], hC0, 0, 0)) rfl ?_
      refine mEnds.brF (q' := (10, [some (.int x1), some (.int 0), some (.int 10)], [], hC0, 0, 0)) rfl f1 rfl ?_
      refine mEnds.steps 2 (q' := (15, [some (.int x1), some (.int 0), some (.int 10)], [.int 1], hC0, 0, 0)) rfl ?_
      exact mEnds.ret rfl
    show mEnds [] 19 83 (7, [some (.int x1), some (.int x3), some (.int x5)], [.int 1], hC0, 0, 0) _
    refine mEnds.steps 4 (q' := (14, [some (.int x1), some (.int x3), some (.int x5)], [.int 8, .int 0, .int x3], hC0, 0, 0)) rfl ?_
    refine mEnds.call (d := 18) (y' := 105) (as := [.int x3, .int 0, .int 8]) (q' := (17, [some (.int x1), some (.int x3), some (.int x5)], [], hC0, 0, 0)) (v := some (.int 0)) (hs' := hC0) (c' := 0) (s' := 0) rfl rfl ?_ ?_
    · refine mEnds.steps 2 (q' := (2, [some (.int x3), some (.int 0), some (.int 8)], [.int 0, .int x3], hC0, 0, 0)) rfl ?_
      refine mEnds.brF (q' := (5, [some (.int x3), some (.int 0), some (.int 8)], [], hC0, 0, 0)) rfl f2 rfl ?_
      refine mEnds.steps 2 (q' := (7, [some (.int x3), some (.int 0), some (.int 8)], [.int 8, .int x3], hC0, 0, 0)) rfl ?_
      refine mEnds.brT (q' := (14, [some (.int x3), some (.int 0), some (.int 8)], [], hC0, 0, 0)) rfl f3 rfl ?_
      refine mEnds.steps 1 (q' := (15, [some (.int x3), some (.int 0), some (.int 8)], [.int 0], hC0, 0, 0)) rfl ?_
      exact mEnds.ret rfl
    show mEnds [] 19 83 (17, [some (.int x1), some (.int x3), some (.int x5)], [.int 0], hC0, 0, 0) _
    refine mEnds.steps 2 (q' := (34, [some (.int x1), some (.int x3), some (.int x5)], [.int 0], hC0, 0, 0)) rfl ?_
    exact mEnds.ret rfl
  show mEnds [] 20 81 (7, [some (.ref 1), some (.int x1), some (.int x2), some (.int x3), some (.int x4), some (.int x5)], [.int 0], hC0, 0, 0) _
  refine mEnds.steps 2 (q' := (35, [some (.ref 1), some (.int x1), some (.int x2), some (.int x3), some (.int x4), some (.int x5)], [.long (-1)], hC0, 0, 0)) rfl ?_
  exact mEnds.ret rfl
set_option maxRecDepth 100000 in
theorem m24_FFFTT (x1 x2 x3 x4 x5 : Int32) (f0 : decide (x1 < 0) = false) (f1 : decide (10 < x1) = false) (f2 : decide (x3 < 0) = false) (f3 : decide (8 < x3) = true) (f4 : decide (x2 < 0) = true) : ∃ hs', mEnds [] 20 166 (mentry 166 [.ref 1, .int x1, .int x2, .int x3, .int x4, .int x5] hM0) (some (.long (-1)), hs', 0, 0) := by
  refine ⟨hM0, ?_⟩
  refine mEnds.steps 4 (q' := (6, [some (.ref 1), some (.int x1), some (.int x2), some (.int x3), some (.int x4), some (.int x5)], [.long 10, .long 0, .long x1.toInt64], hM0, 0, 0)) rfl ?_
  refine mEnds.call (d := 19) (y' := 111) (as := [.long x1.toInt64, .long 0, .long 10]) (q' := (9, [some (.ref 1), some (.int x1), some (.int x2), some (.int x3), some (.int x4), some (.int x5)], [], hM0, 0, 0)) (v := some (.int 1)) (hs' := hM0) (c' := 0) (s' := 0) rfl rfl ?_ ?_
  · refine mEnds.steps 3 (q' := (3, [some (.long x1.toInt64), none, some (.long 0), none, some (.long 10), none], [.int (lg_cmp x1.toInt64 0)], hM0, 0, 0)) rfl ?_
    refine mEnds.brF (q' := (6, [some (.long x1.toInt64), none, some (.long 0), none, some (.long 10), none], [], hM0, 0, 0)) rfl (lgc_lt (c := 0) (by decide) f0) rfl ?_
    refine mEnds.steps 3 (q' := (10, [some (.long x1.toInt64), none, some (.long 0), none, some (.long 10), none], [.int (lg_cmp x1.toInt64 10)], hM0, 0, 0)) rfl ?_
    refine mEnds.brF (q' := (13, [some (.long x1.toInt64), none, some (.long 0), none, some (.long 10), none], [], hM0, 0, 0)) rfl (lgc_gt (c := 10) (by decide) f1) rfl ?_
    refine mEnds.steps 2 (q' := (18, [some (.long x1.toInt64), none, some (.long 0), none, some (.long 10), none], [.int 1], hM0, 0, 0)) rfl ?_
    exact mEnds.ret rfl
  show mEnds [] 20 166 (9, [some (.ref 1), some (.int x1), some (.int x2), some (.int x3), some (.int x4), some (.int x5)], [.int 1], hM0, 0, 0) _
  refine mEnds.steps 3 (q' := (14, [some (.ref 1), some (.int x1), some (.int x2), some (.int x3), some (.int x4), some (.int x5)], [.int x2, .ref 1], hM0, 0, 0)) rfl ?_
  refine mEnds.call (d := 19) (y' := 126) (as := [.ref 1, .int x2]) (q' := (17, [some (.ref 1), some (.int x1), some (.int x2), some (.int x3), some (.int x4), some (.int x5)], [], hM0, 0, 0)) (v := some (.int 0)) (hs' := hM0) (c' := 0) (s' := 0) rfl rfl ?_ ?_
  · refine mEnds.steps 8 (q' := (10, [some (.ref 1), some (.int x2)], [.long (-1), .long 0, .long x2.toInt64], hM0, 0, 0)) rfl ?_
    refine mEnds.call (d := 18) (y' := 111) (as := [.long x2.toInt64, .long 0, .long (-1)]) (q' := (13, [some (.ref 1), some (.int x2)], [], hM0, 0, 0)) (v := some (.int 0)) (hs' := hM0) (c' := 0) (s' := 0) rfl rfl ?_ ?_
    · refine mEnds.steps 3 (q' := (3, [some (.long x2.toInt64), none, some (.long 0), none, some (.long (-1)), none], [.int (lg_cmp x2.toInt64 0)], hM0, 0, 0)) rfl ?_
      refine mEnds.brT (q' := (17, [some (.long x2.toInt64), none, some (.long 0), none, some (.long (-1)), none], [], hM0, 0, 0)) rfl (lgc_lt (c := 0) (by decide) f4) rfl ?_
      refine mEnds.steps 1 (q' := (18, [some (.long x2.toInt64), none, some (.long 0), none, some (.long (-1)), none], [.int 0], hM0, 0, 0)) rfl ?_
      exact mEnds.ret rfl
    show mEnds [] 19 126 (13, [some (.ref 1), some (.int x2)], [.int 0], hM0, 0, 0) _
    exact mEnds.ret rfl
  show mEnds [] 20 166 (17, [some (.ref 1), some (.int x1), some (.int x2), some (.int x3), some (.int x4), some (.int x5)], [.int 0], hM0, 0, 0) _
  refine mEnds.steps 2 (q' := (73, [some (.ref 1), some (.int x1), some (.int x2), some (.int x3), some (.int x4), some (.int x5)], [.long (-1)], hM0, 0, 0)) rfl ?_
  exact mEnds.ret rfl
set_option maxRecDepth 100000 in
theorem c24_FFFTF (x1 x2 x3 x4 x5 : Int32) (f0 : decide (x1 < 0) = false) (f1 : decide (10 < x1) = false) (f2 : decide (x3 < 0) = false) (f3 : decide (8 < x3) = true) (f4 : decide (x2 < 0) = false) : ∃ hs', mEnds [] 20 81 (mentry 81 [.ref 1, .int x1, .int x2, .int x3, .int x4, .int x5] hC0) (some (.long (-1)), hs', 0, 0) := by
  refine ⟨hC0, ?_⟩
  refine mEnds.steps 3 (q' := (4, [some (.ref 1), some (.int x1), some (.int x2), some (.int x3), some (.int x4), some (.int x5)], [.int x5, .int x3, .int x1], hC0, 0, 0)) rfl ?_
  refine mEnds.call (d := 19) (y' := 83) (as := [.int x1, .int x3, .int x5]) (q' := (7, [some (.ref 1), some (.int x1), some (.int x2), some (.int x3), some (.int x4), some (.int x5)], [], hC0, 0, 0)) (v := some (.int 0)) (hs' := hC0) (c' := 0) (s' := 0) rfl rfl ?_ ?_
  · refine mEnds.steps 3 (q' := (4, [some (.int x1), some (.int x3), some (.int x5)], [.int 10, .int 0, .int x1], hC0, 0, 0)) rfl ?_
    refine mEnds.call (d := 18) (y' := 105) (as := [.int x1, .int 0, .int 10]) (q' := (7, [some (.int x1), some (.int x3), some (.int x5)], [], hC0, 0, 0)) (v := some (.int 1)) (hs' := hC0) (c' := 0) (s' := 0) rfl rfl ?_ ?_
    · refine mEnds.steps 2 (q' := (2, [some (.int x1), some (.int 0), some (.int 10)], [.int 0, .int x1], hC0, 0, 0)) rfl ?_
      refine mEnds.brF (q' := (5, [some (.int x1), some (.int 0), some (.int 10)], [], hC0, 0, 0)) rfl f0 rfl ?_
      refine mEnds.steps 2 (q' := (7, [some (.int x1), some (.int 0), some (.int 10)], [.int 10, .int x1], hC0, 0, 0)) rfl ?_
      refine mEnds.brF (q' := (10, [some (.int x1), some (.int 0), some (.int 10)], [], hC0, 0, 0)) rfl f1 rfl ?_
      refine mEnds.steps 2 (q' := (15, [some (.int x1), some (.int 0), some (.int 10)], [.int 1], hC0, 0, 0)) rfl ?_
      exact mEnds.ret rfl
    show mEnds [] 19 83 (7, [some (.int x1), some (.int x3), some (.int x5)], [.int 1], hC0, 0, 0) _
    refine mEnds.steps 4 (q' := (14, [some (.int x1), some (.int x3), some (.int x5)], [.int 8, .int 0, .int x3], hC0, 0, 0)) rfl ?_
    refine mEnds.call (d := 18) (y' := 105) (as := [.int x3, .int 0, .int 8]) (q' := (17, [some (.int x1), some (.int x3), some (.int x5)], [], hC0, 0, 0)) (v := some (.int 0)) (hs' := hC0) (c' := 0) (s' := 0) rfl rfl ?_ ?_
    · refine mEnds.steps 2 (q' := (2, [some (.int x3), some (.int 0), some (.int 8)], [.int 0, .int x3], hC0, 0, 0)) rfl ?_
      refine mEnds.brF (q' := (5, [some (.int x3), some (.int 0), some (.int 8)], [], hC0, 0, 0)) rfl f2 rfl ?_
      refine mEnds.steps 2 (q' := (7, [some (.int x3), some (.int 0), some (.int 8)], [.int 8, .int x3], hC0, 0, 0)) rfl ?_
      refine mEnds.brT (q' := (14, [some (.int x3), some (.int 0), some (.int 8)], [], hC0, 0, 0)) rfl f3 rfl ?_
      refine mEnds.steps 1 (q' := (15, [some (.int x3), some (.int 0), some (.int 8)], [.int 0], hC0, 0, 0)) rfl ?_
      exact mEnds.ret rfl
    show mEnds [] 19 83 (17, [some (.int x1), some (.int x3), some (.int x5)], [.int 0], hC0, 0, 0) _
    refine mEnds.steps 2 (q' := (34, [some (.int x1), some (.int x3), some (.int x5)], [.int 0], hC0, 0, 0)) rfl ?_
    exact mEnds.ret rfl
  show mEnds [] 20 81 (7, [some (.ref 1), some (.int x1), some (.int x2), some (.int x3), some (.int x4), some (.int x5)], [.int 0], hC0, 0, 0) _
  refine mEnds.steps 2 (q' := (35, [some (.ref 1), some (.int x1), some (.int x2), some (.int x3), some (.int x4), some (.int x5)], [.long (-1)], hC0, 0, 0)) rfl ?_
  exact mEnds.ret rfl
set_option maxRecDepth 100000 in
theorem m24_FFFTF (x1 x2 x3 x4 x5 : Int32) (f0 : decide (x1 < 0) = false) (f1 : decide (10 < x1) = false) (f2 : decide (x3 < 0) = false) (f3 : decide (8 < x3) = true) (f4 : decide (x2 < 0) = false) : ∃ hs', mEnds [] 20 166 (mentry 166 [.ref 1, .int x1, .int x2, .int x3, .int x4, .int x5] hM0) (some (.long (-1)), hs', 0, 0) := by
  refine ⟨hM0, ?_⟩
  refine mEnds.steps 4 (q' := (6, [some (.ref 1), some (.int x1), some (.int x2), some (.int x3), some (.int x4), some (.int x5)], [.long 10, .long 0, .long x1.toInt64], hM0, 0, 0)) rfl ?_
  refine mEnds.call (d := 19) (y' := 111) (as := [.long x1.toInt64, .long 0, .long 10]) (q' := (9, [some (.ref 1), some (.int x1), some (.int x2), some (.int x3), some (.int x4), some (.int x5)], [], hM0, 0, 0)) (v := some (.int 1)) (hs' := hM0) (c' := 0) (s' := 0) rfl rfl ?_ ?_
  · refine mEnds.steps 3 (q' := (3, [some (.long x1.toInt64), none, some (.long 0), none, some (.long 10), none], [.int (lg_cmp x1.toInt64 0)], hM0, 0, 0)) rfl ?_
    refine mEnds.brF (q' := (6, [some (.long x1.toInt64), none, some (.long 0), none, some (.long 10), none], [], hM0, 0, 0)) rfl (lgc_lt (c := 0) (by decide) f0) rfl ?_
    refine mEnds.steps 3 (q' := (10, [some (.long x1.toInt64), none, some (.long 0), none, some (.long 10), none], [.int (lg_cmp x1.toInt64 10)], hM0, 0, 0)) rfl ?_
    refine mEnds.brF (q' := (13, [some (.long x1.toInt64), none, some (.long 0), none, some (.long 10), none], [], hM0, 0, 0)) rfl (lgc_gt (c := 10) (by decide) f1) rfl ?_
    refine mEnds.steps 2 (q' := (18, [some (.long x1.toInt64), none, some (.long 0), none, some (.long 10), none], [.int 1], hM0, 0, 0)) rfl ?_
    exact mEnds.ret rfl
  show mEnds [] 20 166 (9, [some (.ref 1), some (.int x1), some (.int x2), some (.int x3), some (.int x4), some (.int x5)], [.int 1], hM0, 0, 0) _
  refine mEnds.steps 3 (q' := (14, [some (.ref 1), some (.int x1), some (.int x2), some (.int x3), some (.int x4), some (.int x5)], [.int x2, .ref 1], hM0, 0, 0)) rfl ?_
  refine mEnds.call (d := 19) (y' := 126) (as := [.ref 1, .int x2]) (q' := (17, [some (.ref 1), some (.int x1), some (.int x2), some (.int x3), some (.int x4), some (.int x5)], [], hM0, 0, 0)) (v := some (.int 0)) (hs' := hM0) (c' := 0) (s' := 0) rfl rfl ?_ ?_
  · refine mEnds.steps 8 (q' := (10, [some (.ref 1), some (.int x2)], [.long (-1), .long 0, .long x2.toInt64], hM0, 0, 0)) rfl ?_
    refine mEnds.call (d := 18) (y' := 111) (as := [.long x2.toInt64, .long 0, .long (-1)]) (q' := (13, [some (.ref 1), some (.int x2)], [], hM0, 0, 0)) (v := some (.int 0)) (hs' := hM0) (c' := 0) (s' := 0) rfl rfl ?_ ?_
    · refine mEnds.steps 3 (q' := (3, [some (.long x2.toInt64), none, some (.long 0), none, some (.long (-1)), none], [.int (lg_cmp x2.toInt64 0)], hM0, 0, 0)) rfl ?_
      refine mEnds.brF (q' := (6, [some (.long x2.toInt64), none, some (.long 0), none, some (.long (-1)), none], [], hM0, 0, 0)) rfl (lgc_lt (c := 0) (by decide) f4) rfl ?_
      refine mEnds.steps 3 (q' := (10, [some (.long x2.toInt64), none, some (.long 0), none, some (.long (-1)), none], [.int (lg_cmp x2.toInt64 (-1))], hM0, 0, 0)) rfl ?_
      refine mEnds.brT (q' := (17, [some (.long x2.toInt64), none, some (.long 0), none, some (.long (-1)), none], [], hM0, 0, 0)) rfl (lgc_gt (c := (-1)) (by decide) (ltF_gtT f4 (by decide))) rfl ?_
      refine mEnds.steps 1 (q' := (18, [some (.long x2.toInt64), none, some (.long 0), none, some (.long (-1)), none], [.int 0], hM0, 0, 0)) rfl ?_
      exact mEnds.ret rfl
    show mEnds [] 19 126 (13, [some (.ref 1), some (.int x2)], [.int 0], hM0, 0, 0) _
    exact mEnds.ret rfl
  show mEnds [] 20 166 (17, [some (.ref 1), some (.int x1), some (.int x2), some (.int x3), some (.int x4), some (.int x5)], [.int 0], hM0, 0, 0) _
  refine mEnds.steps 2 (q' := (73, [some (.ref 1), some (.int x1), some (.int x2), some (.int x3), some (.int x4), some (.int x5)], [.long (-1)], hM0, 0, 0)) rfl ?_
  exact mEnds.ret rfl
set_option maxRecDepth 100000 in
theorem c24_FFFFTT (x1 x2 x3 x4 x5 : Int32) (f0 : decide (x1 < 0) = false) (f1 : decide (10 < x1) = false) (f2 : decide (x3 < 0) = false) (f3 : decide (8 < x3) = false) (f4 : decide (x5 < 0) = true) (f5 : decide (x2 < 0) = true) : ∃ hs', mEnds [] 20 81 (mentry 81 [.ref 1, .int x1, .int x2, .int x3, .int x4, .int x5] hC0) (some (.long (-1)), hs', 0, 0) := by
  refine ⟨hC0, ?_⟩
  refine mEnds.steps 3 (q' := (4, [some (.ref 1), some (.int x1), some (.int x2), some (.int x3), some (.int x4), some (.int x5)], [.int x5, .int x3, .int x1], hC0, 0, 0)) rfl ?_
  refine mEnds.call (d := 19) (y' := 83) (as := [.int x1, .int x3, .int x5]) (q' := (7, [some (.ref 1), some (.int x1), some (.int x2), some (.int x3), some (.int x4), some (.int x5)], [], hC0, 0, 0)) (v := some (.int 0)) (hs' := hC0) (c' := 0) (s' := 0) rfl rfl ?_ ?_
  · refine mEnds.steps 3 (q' := (4, [some (.int x1), some (.int x3), some (.int x5)], [.int 10, .int 0, .int x1], hC0, 0, 0)) rfl ?_
    refine mEnds.call (d := 18) (y' := 105) (as := [.int x1, .int 0, .int 10]) (q' := (7, [some (.int x1), some (.int x3), some (.int x5)], [], hC0, 0, 0)) (v := some (.int 1)) (hs' := hC0) (c' := 0) (s' := 0) rfl rfl ?_ ?_
    · refine mEnds.steps 2 (q' := (2, [some (.int x1), some (.int 0), some (.int 10)], [.int 0, .int x1], hC0, 0, 0)) rfl ?_
      refine mEnds.brF (q' := (5, [some (.int x1), some (.int 0), some (.int 10)], [], hC0, 0, 0)) rfl f0 rfl ?_
      refine mEnds.steps 2 (q' := (7, [some (.int x1), some (.int 0), some (.int 10)], [.int 10, .int x1], hC0, 0, 0)) rfl ?_
      refine mEnds.brF (q' := (10, [some (.int x1), some (.int 0), some (.int 10)], [], hC0, 0, 0)) rfl f1 rfl ?_
      refine mEnds.steps 2 (q' := (15, [some (.int x1), some (.int 0), some (.int 10)], [.int 1], hC0, 0, 0)) rfl ?_
      exact mEnds.ret rfl
    show mEnds [] 19 83 (7, [some (.int x1), some (.int x3), some (.int x5)], [.int 1], hC0, 0, 0) _
    refine mEnds.steps 4 (q' := (14, [some (.int x1), some (.int x3), some (.int x5)], [.int 8, .int 0, .int x3], hC0, 0, 0)) rfl ?_
    refine mEnds.call (d := 18) (y' := 105) (as := [.int x3, .int 0, .int 8]) (q' := (17, [some (.int x1), some (.int x3), some (.int x5)], [], hC0, 0, 0)) (v := some (.int 1)) (hs' := hC0) (c' := 0) (s' := 0) rfl rfl ?_ ?_
    · refine mEnds.steps 2 (q' := (2, [some (.int x3), some (.int 0), some (.int 8)], [.int 0, .int x3], hC0, 0, 0)) rfl ?_
      refine mEnds.brF (q' := (5, [some (.int x3), some (.int 0), some (.int 8)], [], hC0, 0, 0)) rfl f2 rfl ?_
      refine mEnds.steps 2 (q' := (7, [some (.int x3), some (.int 0), some (.int 8)], [.int 8, .int x3], hC0, 0, 0)) rfl ?_
      refine mEnds.brF (q' := (10, [some (.int x3), some (.int 0), some (.int 8)], [], hC0, 0, 0)) rfl f3 rfl ?_
      refine mEnds.steps 2 (q' := (15, [some (.int x3), some (.int 0), some (.int 8)], [.int 1], hC0, 0, 0)) rfl ?_
      exact mEnds.ret rfl
    show mEnds [] 19 83 (17, [some (.int x1), some (.int x3), some (.int x5)], [.int 1], hC0, 0, 0) _
    refine mEnds.steps 4 (q' := (23, [some (.int x1), some (.int x3), some (.int x5)], [.int 1, .int 0, .int x5], hC0, 0, 0)) rfl ?_
    refine mEnds.call (d := 18) (y' := 105) (as := [.int x5, .int 0, .int 1]) (q' := (26, [some (.int x1), some (.int x3), some (.int x5)], [], hC0, 0, 0)) (v := some (.int 0)) (hs' := hC0) (c' := 0) (s' := 0) rfl rfl ?_ ?_
    · refine mEnds.steps 2 (q' := (2, [some (.int x5), some (.int 0), some (.int 1)], [.int 0, .int x5], hC0, 0, 0)) rfl ?_
      refine mEnds.brT (q' := (14, [some (.int x5), some (.int 0), some (.int 1)], [], hC0, 0, 0)) rfl f4 rfl ?_
      refine mEnds.steps 1 (q' := (15, [some (.int x5), some (.int 0), some (.int 1)], [.int 0], hC0, 0, 0)) rfl ?_
      exact mEnds.ret rfl
    show mEnds [] 19 83 (26, [some (.int x1), some (.int x3), some (.int x5)], [.int 0], hC0, 0, 0) _
    refine mEnds.steps 2 (q' := (34, [some (.int x1), some (.int x3), some (.int x5)], [.int 0], hC0, 0, 0)) rfl ?_
    exact mEnds.ret rfl
  show mEnds [] 20 81 (7, [some (.ref 1), some (.int x1), some (.int x2), some (.int x3), some (.int x4), some (.int x5)], [.int 0], hC0, 0, 0) _
  refine mEnds.steps 2 (q' := (35, [some (.ref 1), some (.int x1), some (.int x2), some (.int x3), some (.int x4), some (.int x5)], [.long (-1)], hC0, 0, 0)) rfl ?_
  exact mEnds.ret rfl
set_option maxRecDepth 100000 in
theorem m24_FFFFTT (x1 x2 x3 x4 x5 : Int32) (f0 : decide (x1 < 0) = false) (f1 : decide (10 < x1) = false) (f2 : decide (x3 < 0) = false) (f3 : decide (8 < x3) = false) (f4 : decide (x5 < 0) = true) (f5 : decide (x2 < 0) = true) : ∃ hs', mEnds [] 20 166 (mentry 166 [.ref 1, .int x1, .int x2, .int x3, .int x4, .int x5] hM0) (some (.long (-1)), hs', 0, 0) := by
  refine ⟨hM0, ?_⟩
  refine mEnds.steps 4 (q' := (6, [some (.ref 1), some (.int x1), some (.int x2), some (.int x3), some (.int x4), some (.int x5)], [.long 10, .long 0, .long x1.toInt64], hM0, 0, 0)) rfl ?_
  refine mEnds.call (d := 19) (y' := 111) (as := [.long x1.toInt64, .long 0, .long 10]) (q' := (9, [some (.ref 1), some (.int x1), some (.int x2), some (.int x3), some (.int x4), some (.int x5)], [], hM0, 0, 0)) (v := some (.int 1)) (hs' := hM0) (c' := 0) (s' := 0) rfl rfl ?_ ?_
  · refine mEnds.steps 3 (q' := (3, [some (.long x1.toInt64), none, some (.long 0), none, some (.long 10), none], [.int (lg_cmp x1.toInt64 0)], hM0, 0, 0)) rfl ?_
    refine mEnds.brF (q' := (6, [some (.long x1.toInt64), none, some (.long 0), none, some (.long 10), none], [], hM0, 0, 0)) rfl (lgc_lt (c := 0) (by decide) f0) rfl ?_
    refine mEnds.steps 3 (q' := (10, [some (.long x1.toInt64), none, some (.long 0), none, some (.long 10), none], [.int (lg_cmp x1.toInt64 10)], hM0, 0, 0)) rfl ?_
    refine mEnds.brF (q' := (13, [some (.long x1.toInt64), none, some (.long 0), none, some (.long 10), none], [], hM0, 0, 0)) rfl (lgc_gt (c := 10) (by decide) f1) rfl ?_
    refine mEnds.steps 2 (q' := (18, [some (.long x1.toInt64), none, some (.long 0), none, some (.long 10), none], [.int 1], hM0, 0, 0)) rfl ?_
    exact mEnds.ret rfl
  show mEnds [] 20 166 (9, [some (.ref 1), some (.int x1), some (.int x2), some (.int x3), some (.int x4), some (.int x5)], [.int 1], hM0, 0, 0) _
  refine mEnds.steps 3 (q' := (14, [some (.ref 1), some (.int x1), some (.int x2), some (.int x3), some (.int x4), some (.int x5)], [.int x2, .ref 1], hM0, 0, 0)) rfl ?_
  refine mEnds.call (d := 19) (y' := 126) (as := [.ref 1, .int x2]) (q' := (17, [some (.ref 1), some (.int x1), some (.int x2), some (.int x3), some (.int x4), some (.int x5)], [], hM0, 0, 0)) (v := some (.int 0)) (hs' := hM0) (c' := 0) (s' := 0) rfl rfl ?_ ?_
  · refine mEnds.steps 8 (q' := (10, [some (.ref 1), some (.int x2)], [.long (-1), .long 0, .long x2.toInt64], hM0, 0, 0)) rfl ?_
    refine mEnds.call (d := 18) (y' := 111) (as := [.long x2.toInt64, .long 0, .long (-1)]) (q' := (13, [some (.ref 1), some (.int x2)], [], hM0, 0, 0)) (v := some (.int 0)) (hs' := hM0) (c' := 0) (s' := 0) rfl rfl ?_ ?_
    · refine mEnds.steps 3 (q' := (3, [some (.long x2.toInt64), none, some (.long 0), none, some (.long (-1)), none], [.int (lg_cmp x2.toInt64 0)], hM0, 0, 0)) rfl ?_
      refine mEnds.brT (q' := (17, [some (.long x2.toInt64), none, some (.long 0), none, some (.long (-1)), none], [], hM0, 0, 0)) rfl (lgc_lt (c := 0) (by decide) f5) rfl ?_
      refine mEnds.steps 1 (q' := (18, [some (.long x2.toInt64), none, some (.long 0), none, some (.long (-1)), none], [.int 0], hM0, 0, 0)) rfl ?_
      exact mEnds.ret rfl
    show mEnds [] 19 126 (13, [some (.ref 1), some (.int x2)], [.int 0], hM0, 0, 0) _
    exact mEnds.ret rfl
  show mEnds [] 20 166 (17, [some (.ref 1), some (.int x1), some (.int x2), some (.int x3), some (.int x4), some (.int x5)], [.int 0], hM0, 0, 0) _
  refine mEnds.steps 2 (q' := (73, [some (.ref 1), some (.int x1), some (.int x2), some (.int x3), some (.int x4), some (.int x5)], [.long (-1)], hM0, 0, 0)) rfl ?_
  exact mEnds.ret rfl
set_option maxRecDepth 100000 in
theorem c24_FFFFTF (x1 x2 x3 x4 x5 : Int32) (f0 : decide (x1 < 0) = false) (f1 : decide (10 < x1) = false) (f2 : decide (x3 < 0) = false) (f3 : decide (8 < x3) = false) (f4 : decide (x5 < 0) = true) (f5 : decide (x2 < 0) = false) : ∃ hs', mEnds [] 20 81 (mentry 81 [.ref 1, .int x1, .int x2, .int x3, .int x4, .int x5] hC0) (some (.long (-1)), hs', 0, 0) := by
  refine ⟨hC0, ?_⟩
  refine mEnds.steps 3 (q' := (4, [some (.ref 1), some (.int x1), some (.int x2), some (.int x3), some (.int x4), some (.int x5)], [.int x5, .int x3, .int x1], hC0, 0, 0)) rfl ?_
  refine mEnds.call (d := 19) (y' := 83) (as := [.int x1, .int x3, .int x5]) (q' := (7, [some (.ref 1), some (.int x1), some (.int x2), some (.int x3), some (.int x4), some (.int x5)], [], hC0, 0, 0)) (v := some (.int 0)) (hs' := hC0) (c' := 0) (s' := 0) rfl rfl ?_ ?_
  · refine mEnds.steps 3 (q' := (4, [some (.int x1), some (.int x3), some (.int x5)], [.int 10, .int 0, .int x1], hC0, 0, 0)) rfl ?_
    refine mEnds.call (d := 18) (y' := 105) (as := [.int x1, .int 0, .int 10]) (q' := (7, [some (.int x1), some (.int x3), some (.int x5)], [], hC0, 0, 0)) (v := some (.int 1)) (hs' := hC0) (c' := 0) (s' := 0) rfl rfl ?_ ?_
    · refine mEnds.steps 2 (q' := (2, [some (.int x1), some (.int 0), some (.int 10)], [.int 0, .int x1], hC0, 0, 0)) rfl ?_
      refine mEnds.brF (q' := (5, [some (.int x1), some (.int 0), some (.int 10)], [], hC0, 0, 0)) rfl f0 rfl ?_
      refine mEnds.steps 2 (q' := (7, [some (.int x1), some (.int 0), some (.int 10)], [.int 10, .int x1], hC0, 0, 0)) rfl ?_
      refine mEnds.brF (q' := (10, [some (.int x1), some (.int 0), some (.int 10)], [], hC0, 0, 0)) rfl f1 rfl ?_
      refine mEnds.steps 2 (q' := (15, [some (.int x1), some (.int 0), some (.int 10)], [.int 1], hC0, 0, 0)) rfl ?_
      exact mEnds.ret rfl
    show mEnds [] 19 83 (7, [some (.int x1), some (.int x3), some (.int x5)], [.int 1], hC0, 0, 0) _
    refine mEnds.steps 4 (q' := (14, [some (.int x1), some (.int x3), some (.int x5)], [.int 8, .int 0, .int x3], hC0, 0, 0)) rfl ?_
    refine mEnds.call (d := 18) (y' := 105) (as := [.int x3, .int 0, .int 8]) (q' := (17, [some (.int x1), some (.int x3), some (.int x5)], [], hC0, 0, 0)) (v := some (.int 1)) (hs' := hC0) (c' := 0) (s' := 0) rfl rfl ?_ ?_
    · refine mEnds.steps 2 (q' := (2, [some (.int x3), some (.int 0), some (.int 8)], [.int 0, .int x3], hC0, 0, 0)) rfl ?_
      refine mEnds.brF (q' := (5, [some (.int x3), some (.int 0), some (.int 8)], [], hC0, 0, 0)) rfl f2 rfl ?_
      refine mEnds.steps 2 (q' := (7, [some (.int x3), some (.int 0), some (.int 8)], [.int 8, .int x3], hC0, 0, 0)) rfl ?_
      refine mEnds.brF (q' := (10, [some (.int x3), some (.int 0), some (.int 8)], [], hC0, 0, 0)) rfl f3 rfl ?_
      refine mEnds.steps 2 (q' := (15, [some (.int x3), some (.int 0), some (.int 8)], [.int 1], hC0, 0, 0)) rfl ?_
      exact mEnds.ret rfl
    show mEnds [] 19 83 (17, [some (.int x1), some (.int x3), some (.int x5)], [.int 1], hC0, 0, 0) _
    refine mEnds.steps 4 (q' := (23, [some (.int x1), some (.int x3), some (.int x5)], [.int 1, .int 0, .int x5], hC0, 0, 0)) rfl ?_
    refine mEnds.call (d := 18) (y' := 105) (as := [.int x5, .int 0, .int 1]) (q' := (26, [some (.int x1), some (.int x3), some (.int x5)], [], hC0, 0, 0)) (v := some (.int 0)) (hs' := hC0) (c' := 0) (s' := 0) rfl rfl ?_ ?_
    · refine mEnds.steps 2 (q' := (2, [some (.int x5), some (.int 0), some (.int 1)], [.int 0, .int x5], hC0, 0, 0)) rfl ?_
      refine mEnds.brT (q' := (14, [some (.int x5), some (.int 0), some (.int 1)], [], hC0, 0, 0)) rfl f4 rfl ?_
      refine mEnds.steps 1 (q' := (15, [some (.int x5), some (.int 0), some (.int 1)], [.int 0], hC0, 0, 0)) rfl ?_
      exact mEnds.ret rfl
    show mEnds [] 19 83 (26, [some (.int x1), some (.int x3), some (.int x5)], [.int 0], hC0, 0, 0) _
    refine mEnds.steps 2 (q' := (34, [some (.int x1), some (.int x3), some (.int x5)], [.int 0], hC0, 0, 0)) rfl ?_
    exact mEnds.ret rfl
  show mEnds [] 20 81 (7, [some (.ref 1), some (.int x1), some (.int x2), some (.int x3), some (.int x4), some (.int x5)], [.int 0], hC0, 0, 0) _
  refine mEnds.steps 2 (q' := (35, [some (.ref 1), some (.int x1), some (.int x2), some (.int x3), some (.int x4), some (.int x5)], [.long (-1)], hC0, 0, 0)) rfl ?_
  exact mEnds.ret rfl
set_option maxRecDepth 100000 in
theorem m24_FFFFTF (x1 x2 x3 x4 x5 : Int32) (f0 : decide (x1 < 0) = false) (f1 : decide (10 < x1) = false) (f2 : decide (x3 < 0) = false) (f3 : decide (8 < x3) = false) (f4 : decide (x5 < 0) = true) (f5 : decide (x2 < 0) = false) : ∃ hs', mEnds [] 20 166 (mentry 166 [.ref 1, .int x1, .int x2, .int x3, .int x4, .int x5] hM0) (some (.long (-1)), hs', 0, 0) := by
  refine ⟨hM0, ?_⟩
  refine mEnds.steps 4 (q' := (6, [some (.ref 1), some (.int x1), some (.int x2), some (.int x3), some (.int x4), some (.int x5)], [.long 10, .long 0, .long x1.toInt64], hM0, 0, 0)) rfl ?_
  refine mEnds.call (d := 19) (y' := 111) (as := [.long x1.toInt64, .long 0, .long 10]) (q' := (9, [some (.ref 1), some (.int x1), some (.int x2), some (.int x3), some (.int x4), some (.int x5)], [], hM0, 0, 0)) (v := some (.int 1)) (hs' := hM0) (c' := 0) (s' := 0) rfl rfl ?_ ?_
  · refine mEnds.steps 3 (q' := (3, [some (.long x1.toInt64), none, some (.long 0), none, some (.long 10), none], [.int (lg_cmp x1.toInt64 0)], hM0, 0, 0)) rfl ?_
    refine mEnds.brF (q' := (6, [some (.long x1.toInt64), none, some (.long 0), none, some (.long 10), none], [], hM0, 0, 0)) rfl (lgc_lt (c := 0) (by decide) f0) rfl ?_
    refine mEnds.steps 3 (q' := (10, [some (.long x1.toInt64), none, some (.long 0), none, some (.long 10), none], [.int (lg_cmp x1.toInt64 10)], hM0, 0, 0)) rfl ?_
    refine mEnds.brF (q' := (13, [some (.long x1.toInt64), none, some (.long 0), none, some (.long 10), none], [], hM0, 0, 0)) rfl (lgc_gt (c := 10) (by decide) f1) rfl ?_
    refine mEnds.steps 2 (q' := (18, [some (.long x1.toInt64), none, some (.long 0), none, some (.long 10), none], [.int 1], hM0, 0, 0)) rfl ?_
    exact mEnds.ret rfl
  show mEnds [] 20 166 (9, [some (.ref 1), some (.int x1), some (.int x2), some (.int x3), some (.int x4), some (.int x5)], [.int 1], hM0, 0, 0) _
  refine mEnds.steps 3 (q' := (14, [some (.ref 1), some (.int x1), some (.int x2), some (.int x3), some (.int x4), some (.int x5)], [.int x2, .ref 1], hM0, 0, 0)) rfl ?_
  refine mEnds.call (d := 19) (y' := 126) (as := [.ref 1, .int x2]) (q' := (17, [some (.ref 1), some (.int x1), some (.int x2), some (.int x3), some (.int x4), some (.int x5)], [], hM0, 0, 0)) (v := some (.int 0)) (hs' := hM0) (c' := 0) (s' := 0) rfl rfl ?_ ?_
  · refine mEnds.steps 8 (q' := (10, [some (.ref 1), some (.int x2)], [.long (-1), .long 0, .long x2.toInt64], hM0, 0, 0)) rfl ?_
    refine mEnds.call (d := 18) (y' := 111) (as := [.long x2.toInt64, .long 0, .long (-1)]) (q' := (13, [some (.ref 1), some (.int x2)], [], hM0, 0, 0)) (v := some (.int 0)) (hs' := hM0) (c' := 0) (s' := 0) rfl rfl ?_ ?_
    · refine mEnds.steps 3 (q' := (3, [some (.long x2.toInt64), none, some (.long 0), none, some (.long (-1)), none], [.int (lg_cmp x2.toInt64 0)], hM0, 0, 0)) rfl ?_
      refine mEnds.brF (q' := (6, [some (.long x2.toInt64), none, some (.long 0), none, some (.long (-1)), none], [], hM0, 0, 0)) rfl (lgc_lt (c := 0) (by decide) f5) rfl ?_
      refine mEnds.steps 3 (q' := (10, [some (.long x2.toInt64), none, some (.long 0), none, some (.long (-1)), none], [.int (lg_cmp x2.toInt64 (-1))], hM0, 0, 0)) rfl ?_
      refine mEnds.brT (q' := (17, [some (.long x2.toInt64), none, some (.long 0), none, some (.long (-1)), none], [], hM0, 0, 0)) rfl (lgc_gt (c := (-1)) (by decide) (ltF_gtT f5 (by decide))) rfl ?_
      refine mEnds.steps 1 (q' := (18, [some (.long x2.toInt64), none, some (.long 0), none, some (.long (-1)), none], [.int 0], hM0, 0, 0)) rfl ?_
      exact mEnds.ret rfl
    show mEnds [] 19 126 (13, [some (.ref 1), some (.int x2)], [.int 0], hM0, 0, 0) _
    exact mEnds.ret rfl
  show mEnds [] 20 166 (17, [some (.ref 1), some (.int x1), some (.int x2), some (.int x3), some (.int x4), some (.int x5)], [.int 0], hM0, 0, 0) _
  refine mEnds.steps 2 (q' := (73, [some (.ref 1), some (.int x1), some (.int x2), some (.int x3), some (.int x4), some (.int x5)], [.long (-1)], hM0, 0, 0)) rfl ?_
  exact mEnds.ret rfl
set_option maxRecDepth 100000 in
theorem c24_FFFFFTT (x1 x2 x3 x4 x5 : Int32) (f0 : decide (x1 < 0) = false) (f1 : decide (10 < x1) = false) (f2 : decide (x3 < 0) = false) (f3 : decide (8 < x3) = false) (f4 : decide (x5 < 0) = false) (f5 : decide (1 < x5) = true) (f6 : decide (x2 < 0) = true) : ∃ hs', mEnds [] 20 81 (mentry 81 [.ref 1, .int x1, .int x2, .int x3, .int x4, .int x5] hC0) (some (.long (-1)), hs', 0, 0) := by
  refine ⟨hC0, ?_⟩
  refine mEnds.steps 3 (q' := (4, [some (.ref 1), some (.int x1), some (.int x2), some (.int x3), some (.int x4), some (.int x5)], [.int x5, .int x3, .int x1], hC0, 0, 0)) rfl ?_
  refine mEnds.call (d := 19) (y' := 83) (as := [.int x1, .int x3, .int x5]) (q' := (7, [some (.ref 1), some (.int x1), some (.int x2), some (.int x3), some (.int x4), some (.int x5)], [], hC0, 0, 0)) (v := some (.int 0)) (hs' := hC0) (c' := 0) (s' := 0) rfl rfl ?_ ?_
  · refine mEnds.steps 3 (q' := (4, [some (.int x1), some (.int x3), some (.int x5)], [.int 10, .int 0, .int x1], hC0, 0, 0)) rfl ?_
    refine mEnds.call (d := 18) (y' := 105) (as := [.int x1, .int 0, .int 10]) (q' := (7, [some (.int x1), some (.int x3), some (.int x5)], [], hC0, 0, 0)) (v := some (.int 1)) (hs' := hC0) (c' := 0) (s' := 0) rfl rfl ?_ ?_
    · refine mEnds.steps 2 (q' := (2, [some (.int x1), some (.int 0), some (.int 10)], [.int 0, .int x1], hC0, 0, 0)) rfl ?_
      refine mEnds.brF (q' := (5, [some (.int x1), some (.int 0), some (.int 10)], [], hC0, 0, 0)) rfl f0 rfl ?_
      refine mEnds.steps 2 (q' := (7, [some (.int x1), some (.int 0), some (.int 10)], [.int 10, .int x1], hC0, 0, 0)) rfl ?_
      refine mEnds.brF (q' := (10, [some (.int x1), some (.int 0), some (.int 10)], [], hC0, 0, 0)) rfl f1 rfl ?_
      refine mEnds.steps 2 (q' := (15, [some (.int x1), some (.int 0), some (.int 10)], [.int 1], hC0, 0, 0)) rfl ?_
      exact mEnds.ret rfl
    show mEnds [] 19 83 (7, [some (.int x1), some (.int x3), some (.int x5)], [.int 1], hC0, 0, 0) _
    refine mEnds.steps 4 (q' := (14, [some (.int x1), some (.int x3), some (.int x5)], [.int 8, .int 0, .int x3], hC0, 0, 0)) rfl ?_
    refine mEnds.call (d := 18) (y' := 105) (as := [.int x3, .int 0, .int 8]) (q' := (17, [some (.int x1), some (.int x3), some (.int x5)], [], hC0, 0, 0)) (v := some (.int 1)) (hs' := hC0) (c' := 0) (s' := 0) rfl rfl ?_ ?_
    · refine mEnds.steps 2 (q' := (2, [some (.int x3), some (.int 0), some (.int 8)], [.int 0, .int x3], hC0, 0, 0)) rfl ?_
      refine mEnds.brF (q' := (5, [some (.int x3), some (.int 0), some (.int 8)], [], hC0, 0, 0)) rfl f2 rfl ?_
      refine mEnds.steps 2 (q' := (7, [some (.int x3), some (.int 0), some (.int 8)], [.int 8, .int x3], hC0, 0, 0)) rfl ?_
      refine mEnds.brF (q' := (10, [some (.int x3), some (.int 0), some (.int 8)], [], hC0, 0, 0)) rfl f3 rfl ?_
      refine mEnds.steps 2 (q' := (15, [some (.int x3), some (.int 0), some (.int 8)], [.int 1], hC0, 0, 0)) rfl ?_
      exact mEnds.ret rfl
    show mEnds [] 19 83 (17, [some (.int x1), some (.int x3), some (.int x5)], [.int 1], hC0, 0, 0) _
    refine mEnds.steps 4 (q' := (23, [some (.int x1), some (.int x3), some (.int x5)], [.int 1, .int 0, .int x5], hC0, 0, 0)) rfl ?_
    refine mEnds.call (d := 18) (y' := 105) (as := [.int x5, .int 0, .int 1]) (q' := (26, [some (.int x1), some (.int x3), some (.int x5)], [], hC0, 0, 0)) (v := some (.int 0)) (hs' := hC0) (c' := 0) (s' := 0) rfl rfl ?_ ?_
    · refine mEnds.steps 2 (q' := (2, [some (.int x5), some (.int 0), some (.int 1)], [.int 0, .int x5], hC0, 0, 0)) rfl ?_
      refine mEnds.brF (q' := (5, [some (.int x5), some (.int 0), some (.int 1)], [], hC0, 0, 0)) rfl f4 rfl ?_
      refine mEnds.steps 2 (q' := (7, [some (.int x5), some (.int 0), some (.int 1)], [.int 1, .int x5], hC0, 0, 0)) rfl ?_
      refine mEnds.brT (q' := (14, [some (.int x5), some (.int 0), some (.int 1)], [], hC0, 0, 0)) rfl f5 rfl ?_
      refine mEnds.steps 1 (q' := (15, [some (.int x5), some (.int 0), some (.int 1)], [.int 0], hC0, 0, 0)) rfl ?_
      exact mEnds.ret rfl
    show mEnds [] 19 83 (26, [some (.int x1), some (.int x3), some (.int x5)], [.int 0], hC0, 0, 0) _
    refine mEnds.steps 2 (q' := (34, [some (.int x1), some (.int x3), some (.int x5)], [.int 0], hC0, 0, 0)) rfl ?_
    exact mEnds.ret rfl
  show mEnds [] 20 81 (7, [some (.ref 1), some (.int x1), some (.int x2), some (.int x3), some (.int x4), some (.int x5)], [.int 0], hC0, 0, 0) _
  refine mEnds.steps 2 (q' := (35, [some (.ref 1), some (.int x1), some (.int x2), some (.int x3), some (.int x4), some (.int x5)], [.long (-1)], hC0, 0, 0)) rfl ?_
  exact mEnds.ret rfl
set_option maxRecDepth 100000 in
theorem m24_FFFFFTT (x1 x2 x3 x4 x5 : Int32) (f0 : decide (x1 < 0) = false) (f1 : decide (10 < x1) = false) (f2 : decide (x3 < 0) = false) (f3 : decide (8 < x3) = false) (f4 : decide (x5 < 0) = false) (f5 : decide (1 < x5) = true) (f6 : decide (x2 < 0) = true) : ∃ hs', mEnds [] 20 166 (mentry 166 [.ref 1, .int x1, .int x2, .int x3, .int x4, .int x5] hM0) (some (.long (-1)), hs', 0, 0) := by
  refine ⟨hM0, ?_⟩
  refine mEnds.steps 4 (q' := (6, [some (.ref 1), some (.int x1), some (.int x2), some (.int x3), some (.int x4), some (.int x5)], [.long 10, .long 0, .long x1.toInt64], hM0, 0, 0)) rfl ?_
  refine mEnds.call (d := 19) (y' := 111) (as := [.long x1.toInt64, .long 0, .long 10]) (q' := (9, [some (.ref 1), some (.int x1), some (.int x2), some (.int x3), some (.int x4), some (.int x5)], [], hM0, 0, 0)) (v := some (.int 1)) (hs' := hM0) (c' := 0) (s' := 0) rfl rfl ?_ ?_
  · refine mEnds.steps 3 (q' := (3, [some (.long x1.toInt64), none, some (.long 0), none, some (.long 10), none], [.int (lg_cmp x1.toInt64 0)], hM0, 0, 0)) rfl ?_
    refine mEnds.brF (q' := (6, [some (.long x1.toInt64), none, some (.long 0), none, some (.long 10), none], [], hM0, 0, 0)) rfl (lgc_lt (c := 0) (by decide) f0) rfl ?_
    refine mEnds.steps 3 (q' := (10, [some (.long x1.toInt64), none, some (.long 0), none, some (.long 10), none], [.int (lg_cmp x1.toInt64 10)], hM0, 0, 0)) rfl ?_
    refine mEnds.brF (q' := (13, [some (.long x1.toInt64), none, some (.long 0), none, some (.long 10), none], [], hM0, 0, 0)) rfl (lgc_gt (c := 10) (by decide) f1) rfl ?_
    refine mEnds.steps 2 (q' := (18, [some (.long x1.toInt64), none, some (.long 0), none, some (.long 10), none], [.int 1], hM0, 0, 0)) rfl ?_
    exact mEnds.ret rfl
  show mEnds [] 20 166 (9, [some (.ref 1), some (.int x1), some (.int x2), some (.int x3), some (.int x4), some (.int x5)], [.int 1], hM0, 0, 0) _
  refine mEnds.steps 3 (q' := (14, [some (.ref 1), some (.int x1), some (.int x2), some (.int x3), some (.int x4), some (.int x5)], [.int x2, .ref 1], hM0, 0, 0)) rfl ?_
  refine mEnds.call (d := 19) (y' := 126) (as := [.ref 1, .int x2]) (q' := (17, [some (.ref 1), some (.int x1), some (.int x2), some (.int x3), some (.int x4), some (.int x5)], [], hM0, 0, 0)) (v := some (.int 0)) (hs' := hM0) (c' := 0) (s' := 0) rfl rfl ?_ ?_
  · refine mEnds.steps 8 (q' := (10, [some (.ref 1), some (.int x2)], [.long (-1), .long 0, .long x2.toInt64], hM0, 0, 0)) rfl ?_
    refine mEnds.call (d := 18) (y' := 111) (as := [.long x2.toInt64, .long 0, .long (-1)]) (q' := (13, [some (.ref 1), some (.int x2)], [], hM0, 0, 0)) (v := some (.int 0)) (hs' := hM0) (c' := 0) (s' := 0) rfl rfl ?_ ?_
    · refine mEnds.steps 3 (q' := (3, [some (.long x2.toInt64), none, some (.long 0), none, some (.long (-1)), none], [.int (lg_cmp x2.toInt64 0)], hM0, 0, 0)) rfl ?_
      refine mEnds.brT (q' := (17, [some (.long x2.toInt64), none, some (.long 0), none, some (.long (-1)), none], [], hM0, 0, 0)) rfl (lgc_lt (c := 0) (by decide) f6) rfl ?_
      refine mEnds.steps 1 (q' := (18, [some (.long x2.toInt64), none, some (.long 0), none, some (.long (-1)), none], [.int 0], hM0, 0, 0)) rfl ?_
      exact mEnds.ret rfl
    show mEnds [] 19 126 (13, [some (.ref 1), some (.int x2)], [.int 0], hM0, 0, 0) _
    exact mEnds.ret rfl
  show mEnds [] 20 166 (17, [some (.ref 1), some (.int x1), some (.int x2), some (.int x3), some (.int x4), some (.int x5)], [.int 0], hM0, 0, 0) _
  refine mEnds.steps 2 (q' := (73, [some (.ref 1), some (.int x1), some (.int x2), some (.int x3), some (.int x4), some (.int x5)], [.long (-1)], hM0, 0, 0)) rfl ?_
  exact mEnds.ret rfl
set_option maxRecDepth 100000 in
theorem c24_FFFFFTF (x1 x2 x3 x4 x5 : Int32) (f0 : decide (x1 < 0) = false) (f1 : decide (10 < x1) = false) (f2 : decide (x3 < 0) = false) (f3 : decide (8 < x3) = false) (f4 : decide (x5 < 0) = false) (f5 : decide (1 < x5) = true) (f6 : decide (x2 < 0) = false) : ∃ hs', mEnds [] 20 81 (mentry 81 [.ref 1, .int x1, .int x2, .int x3, .int x4, .int x5] hC0) (some (.long (-1)), hs', 0, 0) := by
  refine ⟨hC0, ?_⟩
  refine mEnds.steps 3 (q' := (4, [some (.ref 1), some (.int x1), some (.int x2), some (.int x3), some (.int x4), some (.int x5)], [.int x5, .int x3, .int x1], hC0, 0, 0)) rfl ?_
  refine mEnds.call (d := 19) (y' := 83) (as := [.int x1, .int x3, .int x5]) (q' := (7, [some (.ref 1), some (.int x1), some (.int x2), some (.int x3), some (.int x4), some (.int x5)], [], hC0, 0, 0)) (v := some (.int 0)) (hs' := hC0) (c' := 0) (s' := 0) rfl rfl ?_ ?_
  · refine mEnds.steps 3 (q' := (4, [some (.int x1), some (.int x3), some (.int x5)], [.int 10, .int 0, .int x1], hC0, 0, 0)) rfl ?_
    refine mEnds.call (d := 18) (y' := 105) (as := [.int x1, .int 0, .int 10]) (q' := (7, [some (.int x1), some (.int x3), some (.int x5)], [], hC0, 0, 0)) (v := some (.int 1)) (hs' := hC0) (c' := 0) (s' := 0) rfl rfl ?_ ?_
    · refine mEnds.steps 2 (q' := (2, [some (.int x1), some (.int 0), some (.int 10)], [.int 0, .int x1], hC0, 0, 0)) rfl ?_
      refine mEnds.brF (q' := (5, [some (.int x1), some (.int 0), some (.int 10)], [], hC0, 0, 0)) rfl f0 rfl ?_
      refine mEnds.steps 2 (q' := (7, [some (.int x1), some (.int 0), some (.int 10)], [.int 10, .int x1], hC0, 0, 0)) rfl ?_
      refine mEnds.brF (q' := (10, [some (.int x1), some (.int 0), some (.int 10)], [], hC0, 0, 0)) rfl f1 rfl ?_
      refine mEnds.steps 2 (q' := (15, [some (.int x1), some (.int 0), some (.int 10)], [.int 1], hC0, 0, 0)) rfl ?_
      exact mEnds.ret rfl
    show mEnds [] 19 83 (7, [some (.int x1), some (.int x3), some (.int x5)], [.int 1], hC0, 0, 0) _
    refine mEnds.steps 4 (q' := (14, [some (.int x1), some (.int x3), some (.int x5)], [.int 8, .int 0, .int x3], hC0, 0, 0)) rfl ?_
    refine mEnds.call (d := 18) (y' := 105) (as := [.int x3, .int 0, .int 8]) (q' := (17, [some (.int x1), some (.int x3), some (.int x5)], [], hC0, 0, 0)) (v := some (.int 1)) (hs' := hC0) (c' := 0) (s' := 0) rfl rfl ?_ ?_
    · refine mEnds.steps 2 (q' := (2, [some (.int x3), some (.int 0), some (.int 8)], [.int 0, .int x3], hC0, 0, 0)) rfl ?_
      refine mEnds.brF (q' := (5, [some (.int x3), some (.int 0), some (.int 8)], [], hC0, 0, 0)) rfl f2 rfl ?_
      refine mEnds.steps 2 (q' := (7, [some (.int x3), some (.int 0), some (.int 8)], [.int 8, .int x3], hC0, 0, 0)) rfl ?_
      refine mEnds.brF (q' := (10, [some (.int x3), some (.int 0), some (.int 8)], [], hC0, 0, 0)) rfl f3 rfl ?_
      refine mEnds.steps 2 (q' := (15, [some (.int x3), some (.int 0), some (.int 8)], [.int 1], hC0, 0, 0)) rfl ?_
      exact mEnds.ret rfl
    show mEnds [] 19 83 (17, [some (.int x1), some (.int x3), some (.int x5)], [.int 1], hC0, 0, 0) _
    refine mEnds.steps 4 (q' := (23, [some (.int x1), some (.int x3), some (.int x5)], [.int 1, .int 0, .int x5], hC0, 0, 0)) rfl ?_
    refine mEnds.call (d := 18) (y' := 105) (as := [.int x5, .int 0, .int 1]) (q' := (26, [some (.int x1), some (.int x3), some (.int x5)], [], hC0, 0, 0)) (v := some (.int 0)) (hs' := hC0) (c' := 0) (s' := 0) rfl rfl ?_ ?_
    · refine mEnds.steps 2 (q' := (2, [some (.int x5), some (.int 0), some (.int 1)], [.int 0, .int x5], hC0, 0, 0)) rfl ?_
      refine mEnds.brF (q' := (5, [some (.int x5), some (.int 0), some (.int 1)], [], hC0, 0, 0)) rfl f4 rfl ?_
      refine mEnds.steps 2 (q' := (7, [some (.int x5), some (.int 0), some (.int 1)], [.int 1, .int x5], hC0, 0, 0)) rfl ?_
      refine mEnds.brT (q' := (14, [some (.int x5), some (.int 0), some (.int 1)], [], hC0, 0, 0)) rfl f5 rfl ?_
      refine mEnds.steps 1 (q' := (15, [some (.int x5), some (.int 0), some (.int 1)], [.int 0], hC0, 0, 0)) rfl ?_
      exact mEnds.ret rfl
    show mEnds [] 19 83 (26, [some (.int x1), some (.int x3), some (.int x5)], [.int 0], hC0, 0, 0) _
    refine mEnds.steps 2 (q' := (34, [some (.int x1), some (.int x3), some (.int x5)], [.int 0], hC0, 0, 0)) rfl ?_
    exact mEnds.ret rfl
  show mEnds [] 20 81 (7, [some (.ref 1), some (.int x1), some (.int x2), some (.int x3), some (.int x4), some (.int x5)], [.int 0], hC0, 0, 0) _
  refine mEnds.steps 2 (q' := (35, [some (.ref 1), some (.int x1), some (.int x2), some (.int x3), some (.int x4), some (.int x5)], [.long (-1)], hC0, 0, 0)) rfl ?_
  exact mEnds.ret rfl
set_option maxRecDepth 100000 in
theorem m24_FFFFFTF (x1 x2 x3 x4 x5 : Int32) (f0 : decide (x1 < 0) = false) (f1 : decide (10 < x1) = false) (f2 : decide (x3 < 0) = false) (f3 : decide (8 < x3) = false) (f4 : decide (x5 < 0) = false) (f5 : decide (1 < x5) = true) (f6 : decide (x2 < 0) = false) : ∃ hs', mEnds [] 20 166 (mentry 166 [.ref 1, .int x1, .int x2, .int x3, .int x4, .int x5] hM0) (some (.long (-1)), hs', 0, 0) := by
  refine ⟨hM0, ?_⟩
  refine mEnds.steps 4 (q' := (6, [some (.ref 1), some (.int x1), some (.int x2), some (.int x3), some (.int x4), some (.int x5)], [.long 10, .long 0, .long x1.toInt64], hM0, 0, 0)) rfl ?_
  refine mEnds.call (d := 19) (y' := 111) (as := [.long x1.toInt64, .long 0, .long 10]) (q' := (9, [some (.ref 1), some (.int x1), some (.int x2), some (.int x3), some (.int x4), some (.int x5)], [], hM0, 0, 0)) (v := some (.int 1)) (hs' := hM0) (c' := 0) (s' := 0) rfl rfl ?_ ?_
  · refine mEnds.steps 3 (q' := (3, [some (.long x1.toInt64), none, some (.long 0), none, some (.long 10), none], [.int (lg_cmp x1.toInt64 0)], hM0, 0, 0)) rfl ?_
    refine mEnds.brF (q' := (6, [some (.long x1.toInt64), none, some (.long 0), none, some (.long 10), none], [], hM0, 0, 0)) rfl (lgc_lt (c := 0) (by decide) f0) rfl ?_
    refine mEnds.steps 3 (q' := (10, [some (.long x1.toInt64), none, some (.long 0), none, some (.long 10), none], [.int (lg_cmp x1.toInt64 10)], hM0, 0, 0)) rfl ?_
    refine mEnds.brF (q' := (13, [some (.long x1.toInt64), none, some (.long 0), none, some (.long 10), none], [], hM0, 0, 0)) rfl (lgc_gt (c := 10) (by decide) f1) rfl ?_
    refine mEnds.steps 2 (q' := (18, [some (.long x1.toInt64), none, some (.long 0), none, some (.long 10), none], [.int 1], hM0, 0, 0)) rfl ?_
    exact mEnds.ret rfl
  show mEnds [] 20 166 (9, [some (.ref 1), some (.int x1), some (.int x2), some (.int x3), some (.int x4), some (.int x5)], [.int 1], hM0, 0, 0) _
  refine mEnds.steps 3 (q' := (14, [some (.ref 1), some (.int x1), some (.int x2), some (.int x3), some (.int x4), some (.int x5)], [.int x2, .ref 1], hM0, 0, 0)) rfl ?_
  refine mEnds.call (d := 19) (y' := 126) (as := [.ref 1, .int x2]) (q' := (17, [some (.ref 1), some (.int x1), some (.int x2), some (.int x3), some (.int x4), some (.int x5)], [], hM0, 0, 0)) (v := some (.int 0)) (hs' := hM0) (c' := 0) (s' := 0) rfl rfl ?_ ?_
  · refine mEnds.steps 8 (q' := (10, [some (.ref 1), some (.int x2)], [.long (-1), .long 0, .long x2.toInt64], hM0, 0, 0)) rfl ?_
    refine mEnds.call (d := 18) (y' := 111) (as := [.long x2.toInt64, .long 0, .long (-1)]) (q' := (13, [some (.ref 1), some (.int x2)], [], hM0, 0, 0)) (v := some (.int 0)) (hs' := hM0) (c' := 0) (s' := 0) rfl rfl ?_ ?_
    · refine mEnds.steps 3 (q' := (3, [some (.long x2.toInt64), none, some (.long 0), none, some (.long (-1)), none], [.int (lg_cmp x2.toInt64 0)], hM0, 0, 0)) rfl ?_
      refine mEnds.brF (q' := (6, [some (.long x2.toInt64), none, some (.long 0), none, some (.long (-1)), none], [], hM0, 0, 0)) rfl (lgc_lt (c := 0) (by decide) f6) rfl ?_
      refine mEnds.steps 3 (q' := (10, [some (.long x2.toInt64), none, some (.long 0), none, some (.long (-1)), none], [.int (lg_cmp x2.toInt64 (-1))], hM0, 0, 0)) rfl ?_
      refine mEnds.brT (q' := (17, [some (.long x2.toInt64), none, some (.long 0), none, some (.long (-1)), none], [], hM0, 0, 0)) rfl (lgc_gt (c := (-1)) (by decide) (ltF_gtT f6 (by decide))) rfl ?_
      refine mEnds.steps 1 (q' := (18, [some (.long x2.toInt64), none, some (.long 0), none, some (.long (-1)), none], [.int 0], hM0, 0, 0)) rfl ?_
      exact mEnds.ret rfl
    show mEnds [] 19 126 (13, [some (.ref 1), some (.int x2)], [.int 0], hM0, 0, 0) _
    exact mEnds.ret rfl
  show mEnds [] 20 166 (17, [some (.ref 1), some (.int x1), some (.int x2), some (.int x3), some (.int x4), some (.int x5)], [.int 0], hM0, 0, 0) _
  refine mEnds.steps 2 (q' := (73, [some (.ref 1), some (.int x1), some (.int x2), some (.int x3), some (.int x4), some (.int x5)], [.long (-1)], hM0, 0, 0)) rfl ?_
  exact mEnds.ret rfl
set_option maxRecDepth 100000 in
theorem c24_FFFFFFT (x1 x2 x3 x4 x5 : Int32) (f0 : decide (x1 < 0) = false) (f1 : decide (10 < x1) = false) (f2 : decide (x3 < 0) = false) (f3 : decide (8 < x3) = false) (f4 : decide (x5 < 0) = false) (f5 : decide (1 < x5) = false) (f6 : decide (x2 < 0) = true) : ∃ hs', mEnds [] 20 81 (mentry 81 [.ref 1, .int x1, .int x2, .int x3, .int x4, .int x5] hC0) (some (.long (-1)), hs', 0, 0) := by
  refine ⟨hC0, ?_⟩
  refine mEnds.steps 3 (q' := (4, [some (.ref 1), some (.int x1), some (.int x2), some (.int x3), some (.int x4), some (.int x5)], [.int x5, .int x3, .int x1], hC0, 0, 0)) rfl ?_
  refine mEnds.call (d := 19) (y' := 83) (as := [.int x1, .int x3, .int x5]) (q' := (7, [some (.ref 1), some (.int x1), some (.int x2), some (.int x3), some (.int x4), some (.int x5)], [], hC0, 0, 0)) (v := some (.int 1)) (hs' := hC0) (c' := 0) (s' := 0) rfl rfl ?_ ?_
  · refine mEnds.steps 3 (q' := (4, [some (.int x1), some (.int x3), some (.int x5)], [.int 10, .int 0, .int x1], hC0, 0, 0)) rfl ?_
    refine mEnds.call (d := 18) (y' := 105) (as := [.int x1, .int 0, .int 10]) (q' := (7, [some (.int x1), some (.int x3), some (.int x5)], [], hC0, 0, 0)) (v := some (.int 1)) (hs' := hC0) (c' := 0) (s' := 0) rfl rfl ?_ ?_
    · refine mEnds.steps 2 (q' := (2, [some (.int x1), some (.int 0), some (.int 10)], [.int 0, .int x1], hC0, 0, 0)) rfl ?_
      refine mEnds.brF (q' := (5, [some (.int x1), some (.int 0), some (.int 10)], [], hC0, 0, 0)) rfl f0 rfl ?_
      refine mEnds.steps 2 (q' := (7, [some (.int x1), some (.int 0), some (.int 10)], [.int 10, .int x1], hC0, 0, 0)) rfl ?_
      refine mEnds.brF (q' := (10, [some (.int x1), some (.int 0), some (.int 10)], [], hC0, 0, 0)) rfl f1 rfl ?_
      refine mEnds.steps 2 (q' := (15, [some (.int x1), some (.int 0), some (.int 10)], [.int 1], hC0, 0, 0)) rfl ?_
      exact mEnds.ret rfl
    show mEnds [] 19 83 (7, [some (.int x1), some (.int x3), some (.int x5)], [.int 1], hC0, 0, 0) _
    refine mEnds.steps 4 (q' := (14, [some (.int x1), some (.int x3), some (.int x5)], [.int 8, .int 0, .int x3], hC0, 0, 0)) rfl ?_
    refine mEnds.call (d := 18) (y' := 105) (as := [.int x3, .int 0, .int 8]) (q' := (17, [some (.int x1), some (.int x3), some (.int x5)], [], hC0, 0, 0)) (v := some (.int 1)) (hs' := hC0) (c' := 0) (s' := 0) rfl rfl ?_ ?_
    · refine mEnds.steps 2 (q' := (2, [some (.int x3), some (.int 0), some (.int 8)], [.int 0, .int x3], hC0, 0, 0)) rfl ?_
      refine mEnds.brF (q' := (5, [some (.int x3), some (.int 0), some (.int 8)], [], hC0, 0, 0)) rfl f2 rfl ?_
      refine mEnds.steps 2 (q' := (7, [some (.int x3), some (.int 0), some (.int 8)], [.int 8, .int x3], hC0, 0, 0)) rfl ?_
      refine mEnds.brF (q' := (10, [some (.int x3), some (.int 0), some (.int 8)], [], hC0, 0, 0)) rfl f3 rfl ?_
      refine mEnds.steps 2 (q' := (15, [some (.int x3), some (.int 0), some (.int 8)], [.int 1], hC0, 0, 0)) rfl ?_
      exact mEnds.ret rfl
    show mEnds [] 19 83 (17, [some (.int x1), some (.int x3), some (.int x5)], [.int 1], hC0, 0, 0) _
    refine mEnds.steps 4 (q' := (23, [some (.int x1), some (.int x3), some (.int x5)], [.int 1, .int 0, .int x5], hC0, 0, 0)) rfl ?_
    refine mEnds.call (d := 18) (y' := 105) (as := [.int x5, .int 0, .int 1]) (q' := (26, [some (.int x1), some (.int x3), some (.int x5)], [], hC0, 0, 0)) (v := some (.int 1)) (hs' := hC0) (c' := 0) (s' := 0) rfl rfl ?_ ?_
    · refine mEnds.steps 2 (q' := (2, [some (.int x5), some (.int 0), some (.int 1)], [.int 0, .int x5], hC0, 0, 0)) rfl ?_
      refine mEnds.brF (q' := (5, [some (.int x5), some (.int 0), some (.int 1)], [], hC0, 0, 0)) rfl f4 rfl ?_
      refine mEnds.steps 2 (q' := (7, [some (.int x5), some (.int 0), some (.int 1)], [.int 1, .int x5], hC0, 0, 0)) rfl ?_
      refine mEnds.brF (q' := (10, [some (.int x5), some (.int 0), some (.int 1)], [], hC0, 0, 0)) rfl f5 rfl ?_
      refine mEnds.steps 2 (q' := (15, [some (.int x5), some (.int 0), some (.int 1)], [.int 1], hC0, 0, 0)) rfl ?_
      exact mEnds.ret rfl
    show mEnds [] 19 83 (26, [some (.int x1), some (.int x3), some (.int x5)], [.int 1], hC0, 0, 0) _
    refine mEnds.steps 3 (q' := (34, [some (.int x1), some (.int x3), some (.int x5)], [.int 1], hC0, 0, 0)) rfl ?_
    exact mEnds.ret rfl
  show mEnds [] 20 81 (7, [some (.ref 1), some (.int x1), some (.int x2), some (.int x3), some (.int x4), some (.int x5)], [.int 1], hC0, 0, 0) _
  refine mEnds.steps 4 (q' := (15, [some (.ref 1), some (.int x1), some (.int x2), some (.int x3), some (.int x4), some (.int x5)], [.int x2, .ref 2], hC0, 0, 0)) rfl ?_
  refine mEnds.call (d := 19) (y' := 8) (as := [.ref 2, .int x2]) (q' := (18, [some (.ref 1), some (.int x1), some (.int x2), some (.int x3), some (.int x4), some (.int x5)], [], hC0, 0, 0)) (v := some (.int 0)) (hs' := hC0) (c' := 0) (s' := 0) rfl rfl ?_ ?_
  · refine mEnds.steps 1 (q' := (1, [some (.ref 2), some (.int x2)], [.int x2], hC0, 0, 0)) rfl ?_
    refine mEnds.brT (q' := (16, [some (.ref 2), some (.int x2)], [], hC0, 0, 0)) rfl f6 rfl ?_
    refine mEnds.steps 1 (q' := (17, [some (.ref 2), some (.int x2)], [.int 0], hC0, 0, 0)) rfl ?_
    exact mEnds.ret rfl
  show mEnds [] 20 81 (18, [some (.ref 1), some (.int x1), some (.int x2), some (.int x3), some (.int x4), some (.int x5)], [.int 0], hC0, 0, 0) _
  refine mEnds.steps 2 (q' := (35, [some (.ref 1), some (.int x1), some (.int x2), some (.int x3), some (.int x4), some (.int x5)], [.long (-1)], hC0, 0, 0)) rfl ?_
  exact mEnds.ret rfl
set_option maxRecDepth 100000 in
theorem m24_FFFFFFT (x1 x2 x3 x4 x5 : Int32) (f0 : decide (x1 < 0) = false) (f1 : decide (10 < x1) = false) (f2 : decide (x3 < 0) = false) (f3 : decide (8 < x3) = false) (f4 : decide (x5 < 0) = false) (f5 : decide (1 < x5) = false) (f6 : decide (x2 < 0) = true) : ∃ hs', mEnds [] 20 166 (mentry 166 [.ref 1, .int x1, .int x2, .int x3, .int x4, .int x5] hM0) (some (.long (-1)), hs', 0, 0) := by
  refine ⟨hM0, ?_⟩
  refine mEnds.steps 4 (q' := (6, [some (.ref 1), some (.int x1), some (.int x2), some (.int x3), some (.int x4), some (.int x5)], [.long 10, .long 0, .long x1.toInt64], hM0, 0, 0)) rfl ?_
  refine mEnds.call (d := 19) (y' := 111) (as := [.long x1.toInt64, .long 0, .long 10]) (q' := (9, [some (.ref 1), some (.int x1), some (.int x2), some (.int x3), some (.int x4), some (.int x5)], [], hM0, 0, 0)) (v := some (.int 1)) (hs' := hM0) (c' := 0) (s' := 0) rfl rfl ?_ ?_
  · refine mEnds.steps 3 (q' := (3, [some (.long x1.toInt64), none, some (.long 0), none, some (.long 10), none], [.int (lg_cmp x1.toInt64 0)], hM0, 0, 0)) rfl ?_
    refine mEnds.brF (q' := (6, [some (.long x1.toInt64), none, some (.long 0), none, some (.long 10), none], [], hM0, 0, 0)) rfl (lgc_lt (c := 0) (by decide) f0) rfl ?_
    refine mEnds.steps 3 (q' := (10, [some (.long x1.toInt64), none, some (.long 0), none, some (.long 10), none], [.int (lg_cmp x1.toInt64 10)], hM0, 0, 0)) rfl ?_
    refine mEnds.brF (q' := (13, [some (.long x1.toInt64), none, some (.long 0), none, some (.long 10), none], [], hM0, 0, 0)) rfl (lgc_gt (c := 10) (by decide) f1) rfl ?_
    refine mEnds.steps 2 (q' := (18, [some (.long x1.toInt64), none, some (.long 0), none, some (.long 10), none], [.int 1], hM0, 0, 0)) rfl ?_
    exact mEnds.ret rfl
  show mEnds [] 20 166 (9, [some (.ref 1), some (.int x1), some (.int x2), some (.int x3), some (.int x4), some (.int x5)], [.int 1], hM0, 0, 0) _
  refine mEnds.steps 3 (q' := (14, [some (.ref 1), some (.int x1), some (.int x2), some (.int x3), some (.int x4), some (.int x5)], [.int x2, .ref 1], hM0, 0, 0)) rfl ?_
  refine mEnds.call (d := 19) (y' := 126) (as := [.ref 1, .int x2]) (q' := (17, [some (.ref 1), some (.int x1), some (.int x2), some (.int x3), some (.int x4), some (.int x5)], [], hM0, 0, 0)) (v := some (.int 0)) (hs' := hM0) (c' := 0) (s' := 0) rfl rfl ?_ ?_
  · refine mEnds.steps 8 (q' := (10, [some (.ref 1), some (.int x2)], [.long (-1), .long 0, .long x2.toInt64], hM0, 0, 0)) rfl ?_
    refine mEnds.call (d := 18) (y' := 111) (as := [.long x2.toInt64, .long 0, .long (-1)]) (q' := (13, [some (.ref 1), some (.int x2)], [], hM0, 0, 0)) (v := some (.int 0)) (hs' := hM0) (c' := 0) (s' := 0) rfl rfl ?_ ?_
    · refine mEnds.steps 3 (q' := (3, [some (.long x2.toInt64), none, some (.long 0), none, some (.long (-1)), none], [.int (lg_cmp x2.toInt64 0)], hM0, 0, 0)) rfl ?_
      refine mEnds.brT (q' := (17, [some (.long x2.toInt64), none, some (.long 0), none, some (.long (-1)), none], [], hM0, 0, 0)) rfl (lgc_lt (c := 0) (by decide) f6) rfl ?_
      refine mEnds.steps 1 (q' := (18, [some (.long x2.toInt64), none, some (.long 0), none, some (.long (-1)), none], [.int 0], hM0, 0, 0)) rfl ?_
      exact mEnds.ret rfl
    show mEnds [] 19 126 (13, [some (.ref 1), some (.int x2)], [.int 0], hM0, 0, 0) _
    exact mEnds.ret rfl
  show mEnds [] 20 166 (17, [some (.ref 1), some (.int x1), some (.int x2), some (.int x3), some (.int x4), some (.int x5)], [.int 0], hM0, 0, 0) _
  refine mEnds.steps 2 (q' := (73, [some (.ref 1), some (.int x1), some (.int x2), some (.int x3), some (.int x4), some (.int x5)], [.long (-1)], hM0, 0, 0)) rfl ?_
  exact mEnds.ret rfl
set_option maxRecDepth 100000 in
theorem c24_FFFFFFF (x1 x2 x3 x4 x5 : Int32) (f0 : decide (x1 < 0) = false) (f1 : decide (10 < x1) = false) (f2 : decide (x3 < 0) = false) (f3 : decide (8 < x3) = false) (f4 : decide (x5 < 0) = false) (f5 : decide (1 < x5) = false) (f6 : decide (x2 < 0) = false) : ∃ hs', mEnds [] 20 81 (mentry 81 [.ref 1, .int x1, .int x2, .int x3, .int x4, .int x5] hC0) (some (.long (-1)), hs', 0, 0) := by
  refine ⟨hC0, ?_⟩
  refine mEnds.steps 3 (q' := (4, [some (.ref 1), some (.int x1), some (.int x2), some (.int x3), some (.int x4), some (.int x5)], [.int x5, .int x3, .int x1], hC0, 0, 0)) rfl ?_
  refine mEnds.call (d := 19) (y' := 83) (as := [.int x1, .int x3, .int x5]) (q' := (7, [some (.ref 1), some (.int x1), some (.int x2), some (.int x3), some (.int x4), some (.int x5)], [], hC0, 0, 0)) (v := some (.int 1)) (hs' := hC0) (c' := 0) (s' := 0) rfl rfl ?_ ?_
  · refine mEnds.steps 3 (q' := (4, [some (.int x1), some (.int x3), some (.int x5)], [.int 10, .int 0, .int x1], hC0, 0, 0)) rfl ?_
    refine mEnds.call (d := 18) (y' := 105) (as := [.int x1, .int 0, .int 10]) (q' := (7, [some (.int x1), some (.int x3), some (.int x5)], [], hC0, 0, 0)) (v := some (.int 1)) (hs' := hC0) (c' := 0) (s' := 0) rfl rfl ?_ ?_
    · refine mEnds.steps 2 (q' := (2, [some (.int x1), some (.int 0), some (.int 10)], [.int 0, .int x1], hC0, 0, 0)) rfl ?_
      refine mEnds.brF (q' := (5, [some (.int x1), some (.int 0), some (.int 10)], [], hC0, 0, 0)) rfl f0 rfl ?_
      refine mEnds.steps 2 (q' := (7, [some (.int x1), some (.int 0), some (.int 10)], [.int 10, .int x1], hC0, 0, 0)) rfl ?_
      refine mEnds.brF (q' := (10, [some (.int x1), some (.int 0), some (.int 10)], [], hC0, 0, 0)) rfl f1 rfl ?_
      refine mEnds.steps 2 (q' := (15, [some (.int x1), some (.int 0), some (.int 10)], [.int 1], hC0, 0, 0)) rfl ?_
      exact mEnds.ret rfl
    show mEnds [] 19 83 (7, [some (.int x1), some (.int x3), some (.int x5)], [.int 1], hC0, 0, 0) _
    refine mEnds.steps 4 (q' := (14, [some (.int x1), some (.int x3), some (.int x5)], [.int 8, .int 0, .int x3], hC0, 0, 0)) rfl ?_
    refine mEnds.call (d := 18) (y' := 105) (as := [.int x3, .int 0, .int 8]) (q' := (17, [some (.int x1), some (.int x3), some (.int x5)], [], hC0, 0, 0)) (v := some (.int 1)) (hs' := hC0) (c' := 0) (s' := 0) rfl rfl ?_ ?_
    · refine mEnds.steps 2 (q' := (2, [some (.int x3), some (.int 0), some (.int 8)], [.int 0, .int x3], hC0, 0, 0)) rfl ?_
      refine mEnds.brF (q' := (5, [some (.int x3), some (.int 0), some (.int 8)], [], hC0, 0, 0)) rfl f2 rfl ?_
      refine mEnds.steps 2 (q' := (7, [some (.int x3), some (.int 0), some (.int 8)], [.int 8, .int x3], hC0, 0, 0)) rfl ?_
      refine mEnds.brF (q' := (10, [some (.int x3), some (.int 0), some (.int 8)], [], hC0, 0, 0)) rfl f3 rfl ?_
      refine mEnds.steps 2 (q' := (15, [some (.int x3), some (.int 0), some (.int 8)], [.int 1], hC0, 0, 0)) rfl ?_
      exact mEnds.ret rfl
    show mEnds [] 19 83 (17, [some (.int x1), some (.int x3), some (.int x5)], [.int 1], hC0, 0, 0) _
    refine mEnds.steps 4 (q' := (23, [some (.int x1), some (.int x3), some (.int x5)], [.int 1, .int 0, .int x5], hC0, 0, 0)) rfl ?_
    refine mEnds.call (d := 18) (y' := 105) (as := [.int x5, .int 0, .int 1]) (q' := (26, [some (.int x1), some (.int x3), some (.int x5)], [], hC0, 0, 0)) (v := some (.int 1)) (hs' := hC0) (c' := 0) (s' := 0) rfl rfl ?_ ?_
    · refine mEnds.steps 2 (q' := (2, [some (.int x5), some (.int 0), some (.int 1)], [.int 0, .int x5], hC0, 0, 0)) rfl ?_
      refine mEnds.brF (q' := (5, [some (.int x5), some (.int 0), some (.int 1)], [], hC0, 0, 0)) rfl f4 rfl ?_
      refine mEnds.steps 2 (q' := (7, [some (.int x5), some (.int 0), some (.int 1)], [.int 1, .int x5], hC0, 0, 0)) rfl ?_
      refine mEnds.brF (q' := (10, [some (.int x5), some (.int 0), some (.int 1)], [], hC0, 0, 0)) rfl f5 rfl ?_
      refine mEnds.steps 2 (q' := (15, [some (.int x5), some (.int 0), some (.int 1)], [.int 1], hC0, 0, 0)) rfl ?_
      exact mEnds.ret rfl
    show mEnds [] 19 83 (26, [some (.int x1), some (.int x3), some (.int x5)], [.int 1], hC0, 0, 0) _
    refine mEnds.steps 3 (q' := (34, [some (.int x1), some (.int x3), some (.int x5)], [.int 1], hC0, 0, 0)) rfl ?_
    exact mEnds.ret rfl
  show mEnds [] 20 81 (7, [some (.ref 1), some (.int x1), some (.int x2), some (.int x3), some (.int x4), some (.int x5)], [.int 1], hC0, 0, 0) _
  refine mEnds.steps 4 (q' := (15, [some (.ref 1), some (.int x1), some (.int x2), some (.int x3), some (.int x4), some (.int x5)], [.int x2, .ref 2], hC0, 0, 0)) rfl ?_
  refine mEnds.call (d := 19) (y' := 8) (as := [.ref 2, .int x2]) (q' := (18, [some (.ref 1), some (.int x1), some (.int x2), some (.int x3), some (.int x4), some (.int x5)], [], hC0, 0, 0)) (v := some (.int 0)) (hs' := hC0) (c' := 0) (s' := 0) rfl rfl ?_ ?_
  · refine mEnds.steps 1 (q' := (1, [some (.ref 2), some (.int x2)], [.int x2], hC0, 0, 0)) rfl ?_
    refine mEnds.brF (q' := (4, [some (.ref 2), some (.int x2)], [], hC0, 0, 0)) rfl f6 rfl ?_
    refine mEnds.steps 3 (q' := (9, [some (.ref 2), some (.int x2)], [.int 0, .int x2], hC0, 0, 0)) rfl ?_
    refine mEnds.brT (q' := (16, [some (.ref 2), some (.int x2)], [], hC0, 0, 0)) rfl (mtk_ge f6) rfl ?_
    refine mEnds.steps 1 (q' := (17, [some (.ref 2), some (.int x2)], [.int 0], hC0, 0, 0)) rfl ?_
    exact mEnds.ret rfl
  show mEnds [] 20 81 (18, [some (.ref 1), some (.int x1), some (.int x2), some (.int x3), some (.int x4), some (.int x5)], [.int 0], hC0, 0, 0) _
  refine mEnds.steps 2 (q' := (35, [some (.ref 1), some (.int x1), some (.int x2), some (.int x3), some (.int x4), some (.int x5)], [.long (-1)], hC0, 0, 0)) rfl ?_
  exact mEnds.ret rfl
set_option maxRecDepth 100000 in
theorem m24_FFFFFFF (x1 x2 x3 x4 x5 : Int32) (f0 : decide (x1 < 0) = false) (f1 : decide (10 < x1) = false) (f2 : decide (x3 < 0) = false) (f3 : decide (8 < x3) = false) (f4 : decide (x5 < 0) = false) (f5 : decide (1 < x5) = false) (f6 : decide (x2 < 0) = false) : ∃ hs', mEnds [] 20 166 (mentry 166 [.ref 1, .int x1, .int x2, .int x3, .int x4, .int x5] hM0) (some (.long (-1)), hs', 0, 0) := by
  refine ⟨hM0, ?_⟩
  refine mEnds.steps 4 (q' := (6, [some (.ref 1), some (.int x1), some (.int x2), some (.int x3), some (.int x4), some (.int x5)], [.long 10, .long 0, .long x1.toInt64], hM0, 0, 0)) rfl ?_
  refine mEnds.call (d := 19) (y' := 111) (as := [.long x1.toInt64, .long 0, .long 10]) (q' := (9, [some (.ref 1), some (.int x1), some (.int x2), some (.int x3), some (.int x4), some (.int x5)], [], hM0, 0, 0)) (v := some (.int 1)) (hs' := hM0) (c' := 0) (s' := 0) rfl rfl ?_ ?_
  · refine mEnds.steps 3 (q' := (3, [some (.long x1.toInt64), none, some (.long 0), none, some (.long 10), none], [.int (lg_cmp x1.toInt64 0)], hM0, 0, 0)) rfl ?_
    refine mEnds.brF (q' := (6, [some (.long x1.toInt64), none, some (.long 0), none, some (.long 10), none], [], hM0, 0, 0)) rfl (lgc_lt (c := 0) (by decide) f0) rfl ?_
    refine mEnds.steps 3 (q' := (10, [some (.long x1.toInt64), none, some (.long 0), none, some (.long 10), none], [.int (lg_cmp x1.toInt64 10)], hM0, 0, 0)) rfl ?_
    refine mEnds.brF (q' := (13, [some (.long x1.toInt64), none, some (.long 0), none, some (.long 10), none], [], hM0, 0, 0)) rfl (lgc_gt (c := 10) (by decide) f1) rfl ?_
    refine mEnds.steps 2 (q' := (18, [some (.long x1.toInt64), none, some (.long 0), none, some (.long 10), none], [.int 1], hM0, 0, 0)) rfl ?_
    exact mEnds.ret rfl
  show mEnds [] 20 166 (9, [some (.ref 1), some (.int x1), some (.int x2), some (.int x3), some (.int x4), some (.int x5)], [.int 1], hM0, 0, 0) _
  refine mEnds.steps 3 (q' := (14, [some (.ref 1), some (.int x1), some (.int x2), some (.int x3), some (.int x4), some (.int x5)], [.int x2, .ref 1], hM0, 0, 0)) rfl ?_
  refine mEnds.call (d := 19) (y' := 126) (as := [.ref 1, .int x2]) (q' := (17, [some (.ref 1), some (.int x1), some (.int x2), some (.int x3), some (.int x4), some (.int x5)], [], hM0, 0, 0)) (v := some (.int 0)) (hs' := hM0) (c' := 0) (s' := 0) rfl rfl ?_ ?_
  · refine mEnds.steps 8 (q' := (10, [some (.ref 1), some (.int x2)], [.long (-1), .long 0, .long x2.toInt64], hM0, 0, 0)) rfl ?_
    refine mEnds.call (d := 18) (y' := 111) (as := [.long x2.toInt64, .long 0, .long (-1)]) (q' := (13, [some (.ref 1), some (.int x2)], [], hM0, 0, 0)) (v := some (.int 0)) (hs' := hM0) (c' := 0) (s' := 0) rfl rfl ?_ ?_
    · refine mEnds.steps 3 (q' := (3, [some (.long x2.toInt64), none, some (.long 0), none, some (.long (-1)), none], [.int (lg_cmp x2.toInt64 0)], hM0, 0, 0)) rfl ?_
      refine mEnds.brF (q' := (6, [some (.long x2.toInt64), none, some (.long 0), none, some (.long (-1)), none], [], hM0, 0, 0)) rfl (lgc_lt (c := 0) (by decide) f6) rfl ?_
      refine mEnds.steps 3 (q' := (10, [some (.long x2.toInt64), none, some (.long 0), none, some (.long (-1)), none], [.int (lg_cmp x2.toInt64 (-1))], hM0, 0, 0)) rfl ?_
      refine mEnds.brT (q' := (17, [some (.long x2.toInt64), none, some (.long 0), none, some (.long (-1)), none], [], hM0, 0, 0)) rfl (lgc_gt (c := (-1)) (by decide) (ltF_gtT f6 (by decide))) rfl ?_
      refine mEnds.steps 1 (q' := (18, [some (.long x2.toInt64), none, some (.long 0), none, some (.long (-1)), none], [.int 0], hM0, 0, 0)) rfl ?_
      exact mEnds.ret rfl
    show mEnds [] 19 126 (13, [some (.ref 1), some (.int x2)], [.int 0], hM0, 0, 0) _
    exact mEnds.ret rfl
  show mEnds [] 20 166 (17, [some (.ref 1), some (.int x1), some (.int x2), some (.int x3), some (.int x4), some (.int x5)], [.int 0], hM0, 0, 0) _
  refine mEnds.steps 2 (q' := (73, [some (.ref 1), some (.int x1), some (.int x2), some (.int x3), some (.int x4), some (.int x5)], [.long (-1)], hM0, 0, 0)) rfl ?_
  exact mEnds.ret rfl
theorem ok_24 (x1 x2 x3 x4 x5 : Int32) : callOK_24 x1 x2 x3 x4 x5 := by
  cases f0 : decide (x1 < 0) with
  | true =>
    obtain ⟨h1, a1⟩ := c24_T x1 x2 x3 x4 x5 f0
    obtain ⟨h2, a2⟩ := m24_T x1 x2 x3 x4 x5 f0
    exact ⟨_, h1, h2, a1, a2⟩
  | false =>
    cases f1 : decide (10 < x1) with
    | true =>
      obtain ⟨h1, a1⟩ := c24_FT x1 x2 x3 x4 x5 f0 f1
      obtain ⟨h2, a2⟩ := m24_FT x1 x2 x3 x4 x5 f0 f1
      exact ⟨_, h1, h2, a1, a2⟩
    | false =>
      cases f2 : decide (x3 < 0) with
      | true =>
        cases f3 : decide (x2 < 0) with
        | true =>
          obtain ⟨h1, a1⟩ := c24_FFTT x1 x2 x3 x4 x5 f0 f1 f2 f3
          obtain ⟨h2, a2⟩ := m24_FFTT x1 x2 x3 x4 x5 f0 f1 f2 f3
          exact ⟨_, h1, h2, a1, a2⟩
        | false =>
          obtain ⟨h1, a1⟩ := c24_FFTF x1 x2 x3 x4 x5 f0 f1 f2 f3
          obtain ⟨h2, a2⟩ := m24_FFTF x1 x2 x3 x4 x5 f0 f1 f2 f3
          exact ⟨_, h1, h2, a1, a2⟩
      | false =>
        cases f3 : decide (8 < x3) with
        | true =>
          cases f4 : decide (x2 < 0) with
          | true =>
            obtain ⟨h1, a1⟩ := c24_FFFTT x1 x2 x3 x4 x5 f0 f1 f2 f3 f4
            obtain ⟨h2, a2⟩ := m24_FFFTT x1 x2 x3 x4 x5 f0 f1 f2 f3 f4
            exact ⟨_, h1, h2, a1, a2⟩
          | false =>
            obtain ⟨h1, a1⟩ := c24_FFFTF x1 x2 x3 x4 x5 f0 f1 f2 f3 f4
            obtain ⟨h2, a2⟩ := m24_FFFTF x1 x2 x3 x4 x5 f0 f1 f2 f3 f4
            exact ⟨_, h1, h2, a1, a2⟩
        | false =>
          cases f4 : decide (x5 < 0) with
          | true =>
            cases f5 : decide (x2 < 0) with
            | true =>
              obtain ⟨h1, a1⟩ := c24_FFFFTT x1 x2 x3 x4 x5 f0 f1 f2 f3 f4 f5
              obtain ⟨h2, a2⟩ := m24_FFFFTT x1 x2 x3 x4 x5 f0 f1 f2 f3 f4 f5
              exact ⟨_, h1, h2, a1, a2⟩
            | false =>
              obtain ⟨h1, a1⟩ := c24_FFFFTF x1 x2 x3 x4 x5 f0 f1 f2 f3 f4 f5
              obtain ⟨h2, a2⟩ := m24_FFFFTF x1 x2 x3 x4 x5 f0 f1 f2 f3 f4 f5
              exact ⟨_, h1, h2, a1, a2⟩
          | false =>
            cases f5 : decide (1 < x5) with
            | true =>
              cases f6 : decide (x2 < 0) with
              | true =>
                obtain ⟨h1, a1⟩ := c24_FFFFFTT x1 x2 x3 x4 x5 f0 f1 f2 f3 f4 f5 f6
                obtain ⟨h2, a2⟩ := m24_FFFFFTT x1 x2 x3 x4 x5 f0 f1 f2 f3 f4 f5 f6
                exact ⟨_, h1, h2, a1, a2⟩
              | false =>
                obtain ⟨h1, a1⟩ := c24_FFFFFTF x1 x2 x3 x4 x5 f0 f1 f2 f3 f4 f5 f6
                obtain ⟨h2, a2⟩ := m24_FFFFFTF x1 x2 x3 x4 x5 f0 f1 f2 f3 f4 f5 f6
                exact ⟨_, h1, h2, a1, a2⟩
            | false =>
              cases f6 : decide (x2 < 0) with
              | true =>
                obtain ⟨h1, a1⟩ := c24_FFFFFFT x1 x2 x3 x4 x5 f0 f1 f2 f3 f4 f5 f6
                obtain ⟨h2, a2⟩ := m24_FFFFFFT x1 x2 x3 x4 x5 f0 f1 f2 f3 f4 f5 f6
                exact ⟨_, h1, h2, a1, a2⟩
              | false =>
                obtain ⟨h1, a1⟩ := c24_FFFFFFF x1 x2 x3 x4 x5 f0 f1 f2 f3 f4 f5 f6
                obtain ⟨h2, a2⟩ := m24_FFFFFFF x1 x2 x3 x4 x5 f0 f1 f2 f3 f4 f5 f6
                exact ⟨_, h1, h2, a1, a2⟩
set_option maxRecDepth 100000 in
theorem c26_T (x1 x2 x3 : Int32) (f0 : decide (x1 < 0) = true) : ∃ hs', mEnds [] 20 89 (mentry 89 [.ref 1, .int x1, .int x2, .int x3] hC0) (some (.int (-1)), hs', 0, 0) := by
  refine ⟨hC0, ?_⟩
  refine mEnds.steps 3 (q' := (4, [some (.ref 1), some (.int x1), some (.int x2), some (.int x3)], [.int 20, .int 0, .int x1], hC0, 0, 0)) rfl ?_
  refine mEnds.call (d := 19) (y' := 105) (as := [.int x1, .int 0, .int 20]) (q' := (7, [some (.ref 1), some (.int x1), some (.int x2), some (.int x3)], [], hC0, 0, 0)) (v := some (.int 0)) (hs' := hC0) (c' := 0) (s' := 0) rfl rfl ?_ ?_
  · refine mEnds.steps 2 (q' := (2, [some (.int x1), some (.int 0), some (.int 20)], [.int 0, .int x1], hC0, 0, 0)) rfl ?_
    refine mEnds.brT (q' := (14, [some (.int x1), some (.int 0), some (.int 20)], [], hC0, 0, 0)) rfl f0 rfl ?_
    refine mEnds.steps 1 (q' := (15, [some (.int x1), some (.int 0), some (.int 20)], [.int 0], hC0, 0, 0)) rfl ?_
    exact mEnds.ret rfl
  show mEnds [] 20 89 (7, [some (.ref 1), some (.int x1), some (.int x2), some (.int x3)], [.int 0], hC0, 0, 0) _
  refine mEnds.steps 2 (q' := (32, [some (.ref 1), some (.int x1), some (.int x2), some (.int x3)], [.int (-1)], hC0, 0, 0)) rfl ?_
  exact mEnds.ret rfl
set_option maxRecDepth 100000 in
theorem m26_T (x1 x2 x3 : Int32) (f0 : decide (x1 < 0) = true) : ∃ hs', mEnds [] 20 168 (mentry 168 [.ref 1, .int x1, .int x2, .int x3] hM0) (some (.int (-1)), hs', 0, 0) := by
  refine ⟨hM0, ?_⟩
  refine mEnds.steps 4 (q' := (6, [some (.ref 1), some (.int x1), some (.int x2), some (.int x3)], [.long 20, .long 0, .long x1.toInt64], hM0, 0, 0)) rfl ?_
  refine mEnds.call (d := 19) (y' := 111) (as := [.long x1.toInt64, .long 0, .long 20]) (q' := (9, [some (.ref 1), some (.int x1), some (.int x2), some (.int x3)], [], hM0, 0, 0)) (v := some (.int 0)) (hs' := hM0) (c' := 0) (s' := 0) rfl rfl ?_ ?_
  · refine mEnds.steps 3 (q' := (3, [some (.long x1.toInt64), none, some (.long 0), none, some (.long 20), none], [.int (lg_cmp x1.toInt64 0)], hM0, 0, 0)) rfl ?_
    refine mEnds.brT (q' := (17, [some (.long x1.toInt64), none, some (.long 0), none, some (.long 20), none], [], hM0, 0, 0)) rfl (lgc_lt (c := 0) (by decide) f0) rfl ?_
    refine mEnds.steps 1 (q' := (18, [some (.long x1.toInt64), none, some (.long 0), none, some (.long 20), none], [.int 0], hM0, 0, 0)) rfl ?_
    exact mEnds.ret rfl
  show mEnds [] 20 168 (9, [some (.ref 1), some (.int x1), some (.int x2), some (.int x3)], [.int 0], hM0, 0, 0) _
  refine mEnds.steps 2 (q' := (33, [some (.ref 1), some (.int x1), some (.int x2), some (.int x3)], [.int (-1)], hM0, 0, 0)) rfl ?_
  exact mEnds.ret rfl
set_option maxRecDepth 100000 in
theorem c26_FT (x1 x2 x3 : Int32) (f0 : decide (x1 < 0) = false) (f1 : decide (20 < x1) = true) : ∃ hs', mEnds [] 20 89 (mentry 89 [.ref 1, .int x1, .int x2, .int x3] hC0) (some (.int (-1)), hs', 0, 0) := by
  refine ⟨hC0, ?_⟩
  refine mEnds.steps 3 (q' := (4, [some (.ref 1), some (.int x1), some (.int x2), some (.int x3)], [.int 20, .int 0, .int x1], hC0, 0, 0)) rfl ?_
  refine mEnds.call (d := 19) (y' := 105) (as := [.int x1, .int 0, .int 20]) (q' := (7, [some (.ref 1), some (.int x1), some (.int x2), some (.int x3)], [], hC0, 0, 0)) (v := some (.int 0)) (hs' := hC0) (c' := 0) (s' := 0) rfl rfl ?_ ?_
  · refine mEnds.steps 2 (q' := (2, [some (.int x1), some (.int 0), some (.int 20)], [.int 0, .int x1], hC0, 0, 0)) rfl ?_
    refine mEnds.brF (q' := (5, [some (.int x1), some (.int 0), some (.int 20)], [], hC0, 0, 0)) rfl f0 rfl ?_
    refine mEnds.steps 2 (q' := (7, [some (.int x1), some (.int 0), some (.int 20)], [.int 20, .int x1], hC0, 0, 0)) rfl ?_
    refine mEnds.brT (q' := (14, [some (.int x1), some (.int 0), some (.int 20)], [], hC0, 0, 0)) rfl f1 rfl ?_
    refine mEnds.steps 1 (q' := (15, [some (.int x1), some (.int 0), some (.int 20)], [.int 0], hC0, 0, 0)) rfl ?_
    exact mEnds.ret rfl
  show mEnds [] 20 89 (7, [some (.ref 1), some (.int x1), some (.int x2), some (.int x3)], [.int 0], hC0, 0, 0) _
  refine mEnds.steps 2 (q' := (32, [some (.ref 1), some (.int x1), some (.int x2), some (.int x3)], [.int (-1)], hC0, 0, 0)) rfl ?_
  exact mEnds.ret rfl
set_option maxRecDepth 100000 in
theorem m26_FT (x1 x2 x3 : Int32) (f0 : decide (x1 < 0) = false) (f1 : decide (20 < x1) = true) : ∃ hs', mEnds [] 20 168 (mentry 168 [.ref 1, .int x1, .int x2, .int x3] hM0) (some (.int (-1)), hs', 0, 0) := by
  refine ⟨hM0, ?_⟩
  refine mEnds.steps 4 (q' := (6, [some (.ref 1), some (.int x1), some (.int x2), some (.int x3)], [.long 20, .long 0, .long x1.toInt64], hM0, 0, 0)) rfl ?_
  refine mEnds.call (d := 19) (y' := 111) (as := [.long x1.toInt64, .long 0, .long 20]) (q' := (9, [some (.ref 1), some (.int x1), some (.int x2), some (.int x3)], [], hM0, 0, 0)) (v := some (.int 0)) (hs' := hM0) (c' := 0) (s' := 0) rfl rfl ?_ ?_
  · refine mEnds.steps 3 (q' := (3, [some (.long x1.toInt64), none, some (.long 0), none, some (.long 20), none], [.int (lg_cmp x1.toInt64 0)], hM0, 0, 0)) rfl ?_
    refine mEnds.brF (q' := (6, [some (.long x1.toInt64), none, some (.long 0), none, some (.long 20), none], [], hM0, 0, 0)) rfl (lgc_lt (c := 0) (by decide) f0) rfl ?_
    refine mEnds.steps 3 (q' := (10, [some (.long x1.toInt64), none, some (.long 0), none, some (.long 20), none], [.int (lg_cmp x1.toInt64 20)], hM0, 0, 0)) rfl ?_
    refine mEnds.brT (q' := (17, [some (.long x1.toInt64), none, some (.long 0), none, some (.long 20), none], [], hM0, 0, 0)) rfl (lgc_gt (c := 20) (by decide) f1) rfl ?_
    refine mEnds.steps 1 (q' := (18, [some (.long x1.toInt64), none, some (.long 0), none, some (.long 20), none], [.int 0], hM0, 0, 0)) rfl ?_
    exact mEnds.ret rfl
  show mEnds [] 20 168 (9, [some (.ref 1), some (.int x1), some (.int x2), some (.int x3)], [.int 0], hM0, 0, 0) _
  refine mEnds.steps 2 (q' := (33, [some (.ref 1), some (.int x1), some (.int x2), some (.int x3)], [.int (-1)], hM0, 0, 0)) rfl ?_
  exact mEnds.ret rfl
set_option maxRecDepth 100000 in
theorem c26_FFT (x1 x2 x3 : Int32) (f0 : decide (x1 < 0) = false) (f1 : decide (20 < x1) = false) (f2 : decide (x2 < 0) = true) : ∃ hs', mEnds [] 20 89 (mentry 89 [.ref 1, .int x1, .int x2, .int x3] hC0) (some (.int (-1)), hs', 0, 0) := by
  refine ⟨hC0, ?_⟩
  refine mEnds.steps 3 (q' := (4, [some (.ref 1), some (.int x1), some (.int x2), some (.int x3)], [.int 20, .int 0, .int x1], hC0, 0, 0)) rfl ?_
  refine mEnds.call (d := 19) (y' := 105) (as := [.int x1, .int 0, .int 20]) (q' := (7, [some (.ref 1), some (.int x1), some (.int x2), some (.int x3)], [], hC0, 0, 0)) (v := some (.int 1)) (hs' := hC0) (c' := 0) (s' := 0) rfl rfl ?_ ?_
  · refine mEnds.steps 2 (q' := (2, [some (.int x1), some (.int 0), some (.int 20)], [.int 0, .int x1], hC0, 0, 0)) rfl ?_
    refine mEnds.brF (q' := (5, [some (.int x1), some (.int 0), some (.int 20)], [], hC0, 0, 0)) rfl f0 rfl ?_
    refine mEnds.steps 2 (q' := (7, [some (.int x1), some (.int 0), some (.int 20)], [.int 20, .int x1], hC0, 0, 0)) rfl ?_
    refine mEnds.brF (q' := (10, [some (.int x1), some (.int 0), some (.int 20)], [], hC0, 0, 0)) rfl f1 rfl ?_
    refine mEnds.steps 2 (q' := (15, [some (.int x1), some (.int 0), some (.int 20)], [.int 1], hC0, 0, 0)) rfl ?_
    exact mEnds.ret rfl
  show mEnds [] 20 89 (7, [some (.ref 1), some (.int x1), some (.int x2), some (.int x3)], [.int 1], hC0, 0, 0) _
  refine mEnds.steps 4 (q' := (15, [some (.ref 1), some (.int x1), some (.int x2), some (.int x3)], [.int x2, .ref 2], hC0, 0, 0)) rfl ?_
  refine mEnds.call (d := 19) (y' := 8) (as := [.ref 2, .int x2]) (q' := (18, [some (.ref 1), some (.int x1), some (.int x2), some (.int x3)], [], hC0, 0, 0)) (v := some (.int 0)) (hs' := hC0) (c' := 0) (s' := 0) rfl rfl ?_ ?_
  · refine mEnds.steps 1 (q' := (1, [some (.ref 2), some (.int x2)], [.int x2], hC0, 0, 0)) rfl ?_
    refine mEnds.brT (q' := (16, [some (.ref 2), some (.int x2)], [], hC0, 0, 0)) rfl f2 rfl ?_
    refine mEnds.steps 1 (q' := (17, [some (.ref 2), some (.int x2)], [.int 0], hC0, 0, 0)) rfl ?_
    exact mEnds.ret rfl
  show mEnds [] 20 89 (18, [some (.ref 1), some (.int x1), some (.int x2), some (.int x3)], [.int 0], hC0, 0, 0) _
  refine mEnds.steps 2 (q' := (32, [some (.ref 1), some (.int x1), some (.int x2), some (.int x3)], [.int (-1)], hC0, 0, 0)) rfl ?_
  exact mEnds.ret rfl
set_option maxRecDepth 100000 in
theorem m26_FFT (x1 x2 x3 : Int32) (f0 : decide (x1 < 0) = false) (f1 : decide (20 < x1) = false) (f2 : decide (x2 < 0) = true) : ∃ hs', mEnds [] 20 168 (mentry 168 [.ref 1, .int x1, .int x2, .int x3] hM0) (some (.int (-1)), hs', 0, 0) := by
  refine ⟨hM0, ?_⟩
  refine mEnds.steps 4 (q' := (6, [some (.ref 1), some (.int x1), some (.int x2), some (.int x3)], [.long 20, .long 0, .long x1.toInt64], hM0, 0, 0)) rfl ?_
  refine mEnds.call (d := 19) (y' := 111) (as := [.long x1.toInt64, .long 0, .long 20]) (q' := (9, [some (.ref 1), some (.int x1), some (.int x2), some (.int x3)], [], hM0, 0, 0)) (v := some (.int 1)) (hs' := hM0) (c' := 0) (s' := 0) rfl rfl ?_ ?_
  · refine mEnds.steps 3 (q' := (3, [some (.long x1.toInt64), none, some (.long 0), none, some (.long 20), none], [.int (lg_cmp x1.toInt64 0)], hM0, 0, 0)) rfl ?_
    refine mEnds.brF (q' := (6, [some (.long x1.toInt64), none, some (.long 0), none, some (.long 20), none], [], hM0, 0, 0)) rfl (lgc_lt (c := 0) (by decide) f0) rfl ?_
    refine mEnds.steps 3 (q' := (10, [some (.long x1.toInt64), none, some (.long 0), none, some (.long 20), none], [.int (lg_cmp x1.toInt64 20)], hM0, 0, 0)) rfl ?_
    refine mEnds.brF (q' := (13, [some (.long x1.toInt64), none, some (.long 0), none, some (.long 20), none], [], hM0, 0, 0)) rfl (lgc_gt (c := 20) (by decide) f1) rfl ?_
    refine mEnds.steps 2 (q' := (18, [some (.long x1.toInt64), none, some (.long 0), none, some (.long 20), none], [.int 1], hM0, 0, 0)) rfl ?_
    exact mEnds.ret rfl
  show mEnds [] 20 168 (9, [some (.ref 1), some (.int x1), some (.int x2), some (.int x3)], [.int 1], hM0, 0, 0) _
  refine mEnds.steps 3 (q' := (14, [some (.ref 1), some (.int x1), some (.int x2), some (.int x3)], [.int x2, .ref 1], hM0, 0, 0)) rfl ?_
  refine mEnds.call (d := 19) (y' := 126) (as := [.ref 1, .int x2]) (q' := (17, [some (.ref 1), some (.int x1), some (.int x2), some (.int x3)], [], hM0, 0, 0)) (v := some (.int 0)) (hs' := hM0) (c' := 0) (s' := 0) rfl rfl ?_ ?_
  · refine mEnds.steps 8 (q' := (10, [some (.ref 1), some (.int x2)], [.long (-1), .long 0, .long x2.toInt64], hM0, 0, 0)) rfl ?_
    refine mEnds.call (d := 18) (y' := 111) (as := [.long x2.toInt64, .long 0, .long (-1)]) (q' := (13, [some (.ref 1), some (.int x2)], [], hM0, 0, 0)) (v := some (.int 0)) (hs' := hM0) (c' := 0) (s' := 0) rfl rfl ?_ ?_
    · refine mEnds.steps 3 (q' := (3, [some (.long x2.toInt64), none, some (.long 0), none, some (.long (-1)), none], [.int (lg_cmp x2.toInt64 0)], hM0, 0, 0)) rfl ?_
      refine mEnds.brT (q' := (17, [some (.long x2.toInt64), none, some (.long 0), none, some (.long (-1)), none], [], hM0, 0, 0)) rfl (lgc_lt (c := 0) (by decide) f2) rfl ?_
      refine mEnds.steps 1 (q' := (18, [some (.long x2.toInt64), none, some (.long 0), none, some (.long (-1)), none], [.int 0], hM0, 0, 0)) rfl ?_
      exact mEnds.ret rfl
    show mEnds [] 19 126 (13, [some (.ref 1), some (.int x2)], [.int 0], hM0, 0, 0) _
    exact mEnds.ret rfl
  show mEnds [] 20 168 (17, [some (.ref 1), some (.int x1), some (.int x2), some (.int x3)], [.int 0], hM0, 0, 0) _
  refine mEnds.steps 2 (q' := (33, [some (.ref 1), some (.int x1), some (.int x2), some (.int x3)], [.int (-1)], hM0, 0, 0)) rfl ?_
  exact mEnds.ret rfl
set_option maxRecDepth 100000 in
theorem c26_FFF (x1 x2 x3 : Int32) (f0 : decide (x1 < 0) = false) (f1 : decide (20 < x1) = false) (f2 : decide (x2 < 0) = false) : ∃ hs', mEnds [] 20 89 (mentry 89 [.ref 1, .int x1, .int x2, .int x3] hC0) (some (.int (-1)), hs', 0, 0) := by
  refine ⟨hC0, ?_⟩
  refine mEnds.steps 3 (q' := (4, [some (.ref 1), some (.int x1), some (.int x2), some (.int x3)], [.int 20, .int 0, .int x1], hC0, 0, 0)) rfl ?_
  refine mEnds.call (d := 19) (y' := 105) (as := [.int x1, .int 0, .int 20]) (q' := (7, [some (.ref 1), some (.int x1), some (.int x2), some (.int x3)], [], hC0, 0, 0)) (v := some (.int 1)) (hs' := hC0) (c' := 0) (s' := 0) rfl rfl ?_ ?_
  · refine mEnds.steps 2 (q' := (2, [some (.int x1), some (.int 0), some (.int 20)], [.int 0, .int x1], hC0, 0, 0)) rfl ?_
    refine mEnds.brF (q' := (5, [some (.int x1), some (.int 0), some (.int 20)], [], hC0, 0, 0)) rfl f0 rfl ?_
    refine mEnds.steps 2 (q' := (7, [some (.int x1), some (.int 0), some (.int 20)], [.int 20, .int x1], hC0, 0, 0)) rfl ?_
    refine mEnds.brF (q' := (10, [some (.int x1), some (.int 0), some (.int 20)], [], hC0, 0, 0)) rfl f1 rfl ?_
    refine mEnds.steps 2 (q' := (15, [some (.int x1), some (.int 0), some (.int 20)], [.int 1], hC0, 0, 0)) rfl ?_
    exact mEnds.ret rfl
  show mEnds [] 20 89 (7, [some (.ref 1), some (.int x1), some (.int x2), some (.int x3)], [.int 1], hC0, 0, 0) _
  refine mEnds.steps 4 (q' := (15, [some (.ref 1), some (.int x1), some (.int x2), some (.int x3)], [.int x2, .ref 2], hC0, 0, 0)) rfl ?_
  refine mEnds.call (d := 19) (y' := 8) (as := [.ref 2, .int x2]) (q' := (18, [some (.ref 1), some (.int x1), some (.int x2), some (.int x3)], [], hC0, 0, 0)) (v := some (.int 0)) (hs' := hC0) (c' := 0) (s' := 0) rfl rfl ?_ ?_
  · refine mEnds.steps 1 (q' := (1, [some (.ref 2), some (.int x2)], [.int x2], hC0, 0, 0)) rfl ?_
    refine mEnds.brF (q' := (4, [some (.ref 2), some (.int x2)], [], hC0, 0, 0)) rfl f2 rfl ?_
    refine mEnds.steps 3 (q' := (9, [some (.ref 2), some (.int x2)], [.int 0, .int x2], hC0, 0, 0)) rfl ?_
    refine mEnds.brT (q' := (16, [some (.ref 2), some (.int x2)], [], hC0, 0, 0)) rfl (mtk_ge f2) rfl ?_
    refine mEnds.steps 1 (q' := (17, [some (.ref 2), some (.int x2)], [.int 0], hC0, 0, 0)) rfl ?_
    exact mEnds.ret rfl
  show mEnds [] 20 89 (18, [some (.ref 1), some (.int x1), some (.int x2), some (.int x3)], [.int 0], hC0, 0, 0) _
  refine mEnds.steps 2 (q' := (32, [some (.ref 1), some (.int x1), some (.int x2), some (.int x3)], [.int (-1)], hC0, 0, 0)) rfl ?_
  exact mEnds.ret rfl
set_option maxRecDepth 100000 in
theorem m26_FFF (x1 x2 x3 : Int32) (f0 : decide (x1 < 0) = false) (f1 : decide (20 < x1) = false) (f2 : decide (x2 < 0) = false) : ∃ hs', mEnds [] 20 168 (mentry 168 [.ref 1, .int x1, .int x2, .int x3] hM0) (some (.int (-1)), hs', 0, 0) := by
  refine ⟨hM0, ?_⟩
  refine mEnds.steps 4 (q' := (6, [some (.ref 1), some (.int x1), some (.int x2), some (.int x3)], [.long 20, .long 0, .long x1.toInt64], hM0, 0, 0)) rfl ?_
  refine mEnds.call (d := 19) (y' := 111) (as := [.long x1.toInt64, .long 0, .long 20]) (q' := (9, [some (.ref 1), some (.int x1), some (.int x2), some (.int x3)], [], hM0, 0, 0)) (v := some (.int 1)) (hs' := hM0) (c' := 0) (s' := 0) rfl rfl ?_ ?_
  · refine mEnds.steps 3 (q' := (3, [some (.long x1.toInt64), none, some (.long 0), none, some (.long 20), none], [.int (lg_cmp x1.toInt64 0)], hM0, 0, 0)) rfl ?_
    refine mEnds.brF (q' := (6, [some (.long x1.toInt64), none, some (.long 0), none, some (.long 20), none], [], hM0, 0, 0)) rfl (lgc_lt (c := 0) (by decide) f0) rfl ?_
    refine mEnds.steps 3 (q' := (10, [some (.long x1.toInt64), none, some (.long 0), none, some (.long 20), none], [.int (lg_cmp x1.toInt64 20)], hM0, 0, 0)) rfl ?_
    refine mEnds.brF (q' := (13, [some (.long x1.toInt64), none, some (.long 0), none, some (.long 20), none], [], hM0, 0, 0)) rfl (lgc_gt (c := 20) (by decide) f1) rfl ?_
    refine mEnds.steps 2 (q' := (18, [some (.long x1.toInt64), none, some (.long 0), none, some (.long 20), none], [.int 1], hM0, 0, 0)) rfl ?_
    exact mEnds.ret rfl
  show mEnds [] 20 168 (9, [some (.ref 1), some (.int x1), some (.int x2), some (.int x3)], [.int 1], hM0, 0, 0) _
  refine mEnds.steps 3 (q' := (14, [some (.ref 1), some (.int x1), some (.int x2), some (.int x3)], [.int x2, .ref 1], hM0, 0, 0)) rfl ?_
  refine mEnds.call (d := 19) (y' := 126) (as := [.ref 1, .int x2]) (q' := (17, [some (.ref 1), some (.int x1), some (.int x2), some (.int x3)], [], hM0, 0, 0)) (v := some (.int 0)) (hs' := hM0) (c' := 0) (s' := 0) rfl rfl ?_ ?_
  · refine mEnds.steps 8 (q' := (10, [some (.ref 1), some (.int x2)], [.long (-1), .long 0, .long x2.toInt64], hM0, 0, 0)) rfl ?_
    refine mEnds.call (d := 18) (y' := 111) (as := [.long x2.toInt64, .long 0, .long (-1)]) (q' := (13, [some (.ref 1), some (.int x2)], [], hM0, 0, 0)) (v := some (.int 0)) (hs' := hM0) (c' := 0) (s' := 0) rfl rfl ?_ ?_
    · refine mEnds.steps 3 (q' := (3, [some (.long x2.toInt64), none, some (.long 0), none, some (.long (-1)), none], [.int (lg_cmp x2.toInt64 0)], hM0, 0, 0)) rfl ?_
      refine mEnds.brF (q' := (6, [some (.long x2.toInt64), none, some (.long 0), none, some (.long (-1)), none], [], hM0, 0, 0)) rfl (lgc_lt (c := 0) (by decide) f2) rfl ?_
      refine mEnds.steps 3 (q' := (10, [some (.long x2.toInt64), none, some (.long 0), none, some (.long (-1)), none], [.int (lg_cmp x2.toInt64 (-1))], hM0, 0, 0)) rfl ?_
      refine mEnds.brT (q' := (17, [some (.long x2.toInt64), none, some (.long 0), none, some (.long (-1)), none], [], hM0, 0, 0)) rfl (lgc_gt (c := (-1)) (by decide) (ltF_gtT f2 (by decide))) rfl ?_
      refine mEnds.steps 1 (q' := (18, [some (.long x2.toInt64), none, some (.long 0), none, some (.long (-1)), none], [.int 0], hM0, 0, 0)) rfl ?_
      exact mEnds.ret rfl
    show mEnds [] 19 126 (13, [some (.ref 1), some (.int x2)], [.int 0], hM0, 0, 0) _
    exact mEnds.ret rfl
  show mEnds [] 20 168 (17, [some (.ref 1), some (.int x1), some (.int x2), some (.int x3)], [.int 0], hM0, 0, 0) _
  refine mEnds.steps 2 (q' := (33, [some (.ref 1), some (.int x1), some (.int x2), some (.int x3)], [.int (-1)], hM0, 0, 0)) rfl ?_
  exact mEnds.ret rfl
theorem ok_26 (x1 x2 x3 x4 x5 : Int32) : callOK_26 x1 x2 x3 x4 x5 := by
  cases f0 : decide (x1 < 0) with
  | true =>
    obtain ⟨h1, a1⟩ := c26_T x1 x2 x3 f0
    obtain ⟨h2, a2⟩ := m26_T x1 x2 x3 f0
    exact ⟨_, h1, h2, a1, a2⟩
  | false =>
    cases f1 : decide (20 < x1) with
    | true =>
      obtain ⟨h1, a1⟩ := c26_FT x1 x2 x3 f0 f1
      obtain ⟨h2, a2⟩ := m26_FT x1 x2 x3 f0 f1
      exact ⟨_, h1, h2, a1, a2⟩
    | false =>
      cases f2 : decide (x2 < 0) with
      | true =>
        obtain ⟨h1, a1⟩ := c26_FFT x1 x2 x3 f0 f1 f2
        obtain ⟨h2, a2⟩ := m26_FFT x1 x2 x3 f0 f1 f2
        exact ⟨_, h1, h2, a1, a2⟩
      | false =>
        obtain ⟨h1, a1⟩ := c26_FFF x1 x2 x3 f0 f1 f2
        obtain ⟨h2, a2⟩ := m26_FFF x1 x2 x3 f0 f1 f2
        exact ⟨_, h1, h2, a1, a2⟩
set_option maxRecDepth 100000 in
theorem c27_T (x1 : Int32) (f0 : decide (x1 < 0) = true) : ∃ hs', mEnds [] 20 90 (mentry 90 [.ref 1, .int x1] hC0) (some (.int (-1)), hs', 0, 0) := by
  refine ⟨hC0, ?_⟩
  refine mEnds.steps 7 (q' := (11, [some (.ref 1), some (.int x1), some (.int 0)], [.int 0, .int 0, .int x1], hC0, 0, 0)) rfl ?_
  refine mEnds.call (d := 19) (y' := 105) (as := [.int x1, .int 0, .int 0]) (q' := (14, [some (.ref 1), some (.int x1), some (.int 0)], [], hC0, 0, 0)) (v := some (.int 0)) (hs' := hC0) (c' := 0) (s' := 0) rfl rfl ?_ ?_
  · refine mEnds.steps 2 (q' := (2, [some (.int x1), some (.int 0), some (.int 0)], [.int 0, .int x1], hC0, 0, 0)) rfl ?_
    refine mEnds.brT (q' := (14, [some (.int x1), some (.int 0), some (.int 0)], [], hC0, 0, 0)) rfl f0 rfl ?_
    refine mEnds.steps 1 (q' := (15, [some (.int x1), some (.int 0), some (.int 0)], [.int 0], hC0, 0, 0)) rfl ?_
    exact mEnds.ret rfl
  show mEnds [] 20 90 (14, [some (.ref 1), some (.int x1), some (.int 0)], [.int 0], hC0, 0, 0) _
  refine mEnds.steps 2 (q' := (18, [some (.ref 1), some (.int x1), some (.int 0)], [.int (-1)], hC0, 0, 0)) rfl ?_
  exact mEnds.ret rfl
set_option maxRecDepth 100000 in
theorem m27_T (x1 : Int32) (f0 : decide (x1 < 0) = true) : ∃ hs', mEnds [] 20 169 (mentry 169 [.ref 1, .int x1] hM0) (some (.int (-1)), hs', 0, 0) := by
  refine ⟨hM0, ?_⟩
  refine mEnds.steps 6 (q' := (8, [some (.ref 1), some (.int x1), none], [.long 0, .long 0, .long x1.toInt64], hM0, 0, 0)) rfl ?_
  refine mEnds.call (d := 19) (y' := 111) (as := [.long x1.toInt64, .long 0, .long 0]) (q' := (11, [some (.ref 1), some (.int x1), none], [], hM0, 0, 0)) (v := some (.int 0)) (hs' := hM0) (c' := 0) (s' := 0) rfl rfl ?_ ?_
  · refine mEnds.steps 3 (q' := (3, [some (.long x1.toInt64), none, some (.long 0), none, some (.long 0), none], [.int (lg_cmp x1.toInt64 0)], hM0, 0, 0)) rfl ?_
    refine mEnds.brT (q' := (17, [some (.long x1.toInt64), none, some (.long 0), none, some (.long 0), none], [], hM0, 0, 0)) rfl (lgc_lt (c := 0) (by decide) f0) rfl ?_
    refine mEnds.steps 1 (q' := (18, [some (.long x1.toInt64), none, some (.long 0), none, some (.long 0), none], [.int 0], hM0, 0, 0)) rfl ?_
    exact mEnds.ret rfl
  show mEnds [] 20 169 (11, [some (.ref 1), some (.int x1), none], [.int 0], hM0, 0, 0) _
  refine mEnds.steps 2 (q' := (15, [some (.ref 1), some (.int x1), none], [.int (-1)], hM0, 0, 0)) rfl ?_
  exact mEnds.ret rfl
set_option maxRecDepth 100000 in
theorem c27_FT (x1 : Int32) (f0 : decide (x1 < 0) = false) (f1 : decide (0 < x1) = true) : ∃ hs', mEnds [] 20 90 (mentry 90 [.ref 1, .int x1] hC0) (some (.int (-1)), hs', 0, 0) := by
  refine ⟨hC0, ?_⟩
  refine mEnds.steps 7 (q' := (11, [some (.ref 1), some (.int x1), some (.int 0)], [.int 0, .int 0, .int x1], hC0, 0, 0)) rfl ?_
  refine mEnds.call (d := 19) (y' := 105) (as := [.int x1, .int 0, .int 0]) (q' := (14, [some (.ref 1), some (.int x1), some (.int 0)], [], hC0, 0, 0)) (v := some (.int 0)) (hs' := hC0) (c' := 0) (s' := 0) rfl rfl ?_ ?_
  · refine mEnds.steps 2 (q' := (2, [some (.int x1), some (.int 0), some (.int 0)], [.int 0, .int x1], hC0, 0, 0)) rfl ?_
    refine mEnds.brF (q' := (5, [some (.int x1), some (.int 0), some (.int 0)], [], hC0, 0, 0)) rfl f0 rfl ?_
    refine mEnds.steps 2 (q' := (7, [some (.int x1), some (.int 0), some (.int 0)], [.int 0, .int x1], hC0, 0, 0)) rfl ?_
    refine mEnds.brT (q' := (14, [some (.int x1), some (.int 0), some (.int 0)], [], hC0, 0, 0)) rfl f1 rfl ?_
    refine mEnds.steps 1 (q' := (15, [some (.int x1), some (.int 0), some (.int 0)], [.int 0], hC0, 0, 0)) rfl ?_
    exact mEnds.ret rfl
  show mEnds [] 20 90 (14, [some (.ref 1), some (.int x1), some (.int 0)], [.int 0], hC0, 0, 0) _
  refine mEnds.steps 2 (q' := (18, [some (.ref 1), some (.int x1), some (.int 0)], [.int (-1)], hC0, 0, 0)) rfl ?_
  exact mEnds.ret rfl
set_option maxRecDepth 100000 in
theorem m27_FT (x1 : Int32) (f0 : decide (x1 < 0) = false) (f1 : decide (0 < x1) = true) : ∃ hs', mEnds [] 20 169 (mentry 169 [.ref 1, .int x1] hM0) (some (.int (-1)), hs', 0, 0) := by
  refine ⟨hM0, ?_⟩
  refine mEnds.steps 6 (q' := (8, [some (.ref 1), some (.int x1), none], [.long 0, .long 0, .long x1.toInt64], hM0, 0, 0)) rfl ?_
  refine mEnds.call (d := 19) (y' := 111) (as := [.long x1.toInt64, .long 0, .long 0]) (q' := (11, [some (.ref 1), some (.int x1), none], [], hM0, 0, 0)) (v := some (.int 0)) (hs' := hM0) (c' := 0) (s' := 0) rfl rfl ?_ ?_
  · refine mEnds.steps 3 (q' := (3, [some (.long x1.toInt64), none, some (.long 0), none, some (.long 0), none], [.int (lg_cmp x1.toInt64 0)], hM0, 0, 0)) rfl ?_
    refine mEnds.brF (q' := (6, [some (.long x1.toInt64), none, some (.long 0), none, some (.long 0), none], [], hM0, 0, 0)) rfl (lgc_lt (c := 0) (by decide) f0) rfl ?_
    refine mEnds.steps 3 (q' := (10, [some (.long x1.toInt64), none, some (.long 0), none, some (.long 0), none], [.int (lg_cmp x1.toInt64 0)], hM0, 0, 0)) rfl ?_
    refine mEnds.brT (q' := (17, [some (.long x1.toInt64), none, some (.long 0), none, some (.long 0), none], [], hM0, 0, 0)) rfl (lgc_gt (c := 0) (by decide) f1) rfl ?_
    refine mEnds.steps 1 (q' := (18, [some (.long x1.toInt64), none, some (.long 0), none, some (.long 0), none], [.int 0], hM0, 0, 0)) rfl ?_
    exact mEnds.ret rfl
  show mEnds [] 20 169 (11, [some (.ref 1), some (.int x1), none], [.int 0], hM0, 0, 0) _
  refine mEnds.steps 2 (q' := (15, [some (.ref 1), some (.int x1), none], [.int (-1)], hM0, 0, 0)) rfl ?_
  exact mEnds.ret rfl
set_option maxRecDepth 100000 in
theorem c27_FF (x1 : Int32) (f0 : decide (x1 < 0) = false) (f1 : decide (0 < x1) = false) : ∃ hs', mEnds [] 20 90 (mentry 90 [.ref 1, .int x1] hC0) (some (.int 0), hs', 0, 0) := by
  refine ⟨(hC0.set 14 (.inr (0, [.ref 15, .ref 16, .ref 17, .int x1]))), ?_⟩
  refine mEnds.steps 7 (q' := (11, [some (.ref 1), some (.int x1), some (.int 0)], [.int 0, .int 0, .int x1], hC0, 0, 0)) rfl ?_
  refine mEnds.call (d := 19) (y' := 105) (as := [.int x1, .int 0, .int 0]) (q' := (14, [some (.ref 1), some (.int x1), some (.int 0)], [], hC0, 0, 0)) (v := some (.int 1)) (hs' := hC0) (c' := 0) (s' := 0) rfl rfl ?_ ?_
  · refine mEnds.steps 2 (q' := (2, [some (.int x1), some (.int 0), some (.int 0)], [.int 0, .int x1], hC0, 0, 0)) rfl ?_
    refine mEnds.brF (q' := (5, [some (.int x1), some (.int 0), some (.int 0)], [], hC0, 0, 0)) rfl f0 rfl ?_
    refine mEnds.steps 2 (q' := (7, [some (.int x1), some (.int 0), some (.int 0)], [.int 0, .int x1], hC0, 0, 0)) rfl ?_
    refine mEnds.brF (q' := (10, [some (.int x1), some (.int 0), some (.int 0)], [], hC0, 0, 0)) rfl f1 rfl ?_
    refine mEnds.steps 2 (q' := (15, [some (.int x1), some (.int 0), some (.int 0)], [.int 1], hC0, 0, 0)) rfl ?_
    exact mEnds.ret rfl
  show mEnds [] 20 90 (14, [some (.ref 1), some (.int x1), some (.int 0)], [.int 1], hC0, 0, 0) _
  refine mEnds.steps 6 (q' := (28, [some (.ref 1), some (.int x1), some (.int 0)], [.int 0], (hC0.set 14 (.inr (0, [.ref 15, .ref 16, .ref 17, .int x1]))), 0, 0)) rfl ?_
  exact mEnds.ret rfl
set_option maxRecDepth 100000 in
theorem m27_FF (x1 : Int32) (f0 : decide (x1 < 0) = false) (f1 : decide (0 < x1) = false) : ∃ hs', mEnds [] 20 169 (mentry 169 [.ref 1, .int x1] hM0) (some (.int 0), hs', 0, 0) := by
  refine ⟨(hM0.set 1 (.inr (5, [.ref 2, .int 0, .ref 3, .int 0, .int 0, .int 0, .int 0, .ref 4, .int 0, .int 0, .int 0, .int 0, .int 0, .int 0, .int 0, .int 0, .ref 5, .ref 6, .ref 7, .int 0, .int 0, .ref 8, .int x1, .ref 9, .ref 10, .ref 11, .ref 12, .ref 13, .int 0]))), ?_⟩
  refine mEnds.steps 6 (q' := (8, [some (.ref 1), some (.int x1), none], [.long 0, .long 0, .long x1.toInt64], hM0, 0, 0)) rfl ?_
  refine mEnds.call (d := 19) (y' := 111) (as := [.long x1.toInt64, .long 0, .long 0]) (q' := (11, [some (.ref 1), some (.int x1), none], [], hM0, 0, 0)) (v := some (.int 1)) (hs' := hM0) (c' := 0) (s' := 0) rfl rfl ?_ ?_
  · refine mEnds.steps 3 (q' := (3, [some (.long x1.toInt64), none, some (.long 0), none, some (.long 0), none], [.int (lg_cmp x1.toInt64 0)], hM0, 0, 0)) rfl ?_
    refine mEnds.brF (q' := (6, [some (.long x1.toInt64), none, some (.long 0), none, some (.long 0), none], [], hM0, 0, 0)) rfl (lgc_lt (c := 0) (by decide) f0) rfl ?_
    refine mEnds.steps 3 (q' := (10, [some (.long x1.toInt64), none, some (.long 0), none, some (.long 0), none], [.int (lg_cmp x1.toInt64 0)], hM0, 0, 0)) rfl ?_
    refine mEnds.brF (q' := (13, [some (.long x1.toInt64), none, some (.long 0), none, some (.long 0), none], [], hM0, 0, 0)) rfl (lgc_gt (c := 0) (by decide) f1) rfl ?_
    refine mEnds.steps 2 (q' := (18, [some (.long x1.toInt64), none, some (.long 0), none, some (.long 0), none], [.int 1], hM0, 0, 0)) rfl ?_
    exact mEnds.ret rfl
  show mEnds [] 20 169 (11, [some (.ref 1), some (.int x1), none], [.int 1], hM0, 0, 0) _
  refine mEnds.steps 8 (q' := (27, [some (.ref 1), some (.int x1), some (.int 0)], [.int 0], (hM0.set 1 (.inr (5, [.ref 2, .int 0, .ref 3, .int 0, .int 0, .int 0, .int 0, .ref 4, .int 0, .int 0, .int 0, .int 0, .int 0, .int 0, .int 0, .int 0, .ref 5, .ref 6, .ref 7, .int 0, .int 0, .ref 8, .int x1, .ref 9, .ref 10, .ref 11, .ref 12, .ref 13, .int 0]))), 0, 0)) rfl ?_
  exact mEnds.ret rfl
theorem ok_27 (x1 x2 x3 x4 x5 : Int32) : callOK_27 x1 x2 x3 x4 x5 := by
  cases f0 : decide (x1 < 0) with
  | true =>
    obtain ⟨h1, a1⟩ := c27_T x1 f0
    obtain ⟨h2, a2⟩ := m27_T x1 f0
    exact ⟨_, h1, h2, a1, a2⟩
  | false =>
    cases f1 : decide (0 < x1) with
    | true =>
      obtain ⟨h1, a1⟩ := c27_FT x1 f0 f1
      obtain ⟨h2, a2⟩ := m27_FT x1 f0 f1
      exact ⟨_, h1, h2, a1, a2⟩
    | false =>
      obtain ⟨h1, a1⟩ := c27_FF x1 f0 f1
      obtain ⟨h2, a2⟩ := m27_FF x1 f0 f1
      exact ⟨_, h1, h2, a1, a2⟩
set_option maxRecDepth 100000 in
theorem c28_T (x1 : Int32) (f0 : decide (x1 < 0) = true) : ∃ hs', mEnds [] 20 91 (mentry 91 [.ref 1, .int x1] hC0) (some (.int (-1)), hs', 0, 0) := by
  refine ⟨hC0, ?_⟩
  refine mEnds.steps 3 (q' := (5, [some (.ref 1), some (.int x1), none, none, none], [.int x1, .ref 2], hC0, 0, 0)) rfl ?_
  refine mEnds.call (d := 19) (y' := 8) (as := [.ref 2, .int x1]) (q' := (8, [some (.ref 1), some (.int x1), none, none, none], [], hC0, 0, 0)) (v := some (.int 0)) (hs' := hC0) (c' := 0) (s' := 0) rfl rfl ?_ ?_
  · refine mEnds.steps 1 (q' := (1, [some (.ref 2), some (.int x1)], [.int x1], hC0, 0, 0)) rfl ?_
    refine mEnds.brT (q' := (16, [some (.ref 2), some (.int x1)], [], hC0, 0, 0)) rfl f0 rfl ?_
    refine mEnds.steps 1 (q' := (17, [some (.ref 2), some (.int x1)], [.int 0], hC0, 0, 0)) rfl ?_
    exact mEnds.ret rfl
  show mEnds [] 20 91 (8, [some (.ref 1), some (.int x1), none, none, none], [.int 0], hC0, 0, 0) _
  refine mEnds.steps 2 (q' := (12, [some (.ref 1), some (.int x1), none, none, none], [.int (-1)], hC0, 0, 0)) rfl ?_
  exact mEnds.ret rfl
set_option maxRecDepth 100000 in
theorem m28_T (x1 : Int32) (f0 : decide (x1 < 0) = true) : ∃ hs', mEnds [] 20 172 (mentry 172 [.ref 1, .int x1] hM0) (some (.int (-1)), hs', 0, 0) := by
  refine ⟨hM0, ?_⟩
  refine mEnds.steps 2 (q' := (2, [some (.ref 1), some (.int x1)], [.int x1, .ref 1], hM0, 0, 0)) rfl ?_
  refine mEnds.call (d := 19) (y' := 126) (as := [.ref 1, .int x1]) (q' := (5, [some (.ref 1), some (.int x1)], [], hM0, 0, 0)) (v := some (.int 0)) (hs' := hM0) (c' := 0) (s' := 0) rfl rfl ?_ ?_
  · refine mEnds.steps 8 (q' := (10, [some (.ref 1), some (.int x1)], [.long (-1), .long 0, .long x1.toInt64], hM0, 0, 0)) rfl ?_
    refine mEnds.call (d := 18) (y' := 111) (as := [.long x1.toInt64, .long 0, .long (-1)]) (q' := (13, [some (.ref 1), some (.int x1)], [], hM0, 0, 0)) (v := some (.int 0)) (hs' := hM0) (c' := 0) (s' := 0) rfl rfl ?_ ?_
    · refine mEnds.steps 3 (q' := (3, [some (.long x1.toInt64), none, some (.long 0), none, some (.long (-1)), none], [.int (lg_cmp x1.toInt64 0)], hM0, 0, 0)) rfl ?_
      refine mEnds.brT (q' := (17, [some (.long x1.toInt64), none, some (.long 0), none, some (.long (-1)), none], [], hM0, 0, 0)) rfl (lgc_lt (c := 0) (by decide) f0) rfl ?_
      refine mEnds.steps 1 (q' := (18, [some (.long x1.toInt64), none, some (.long 0), none, some (.long (-1)), none], [.int 0], hM0, 0, 0)) rfl ?_
      exact mEnds.ret rfl
    show mEnds [] 19 126 (13, [some (.ref 1), some (.int x1)], [.int 0], hM0, 0, 0) _
    exact mEnds.ret rfl
  show mEnds [] 20 172 (5, [some (.ref 1), some (.int x1)], [.int 0], hM0, 0, 0) _
  refine mEnds.steps 2 (q' := (9, [some (.ref 1), some (.int x1)], [.int (-1)], hM0, 0, 0)) rfl ?_
  exact mEnds.ret rfl
set_option maxRecDepth 100000 in
theorem c28_F (x1 : Int32) (f0 : decide (x1 < 0) = false) : ∃ hs', mEnds [] 20 91 (mentry 91 [.ref 1, .int x1] hC0) (some (.int (-1)), hs', 0, 0) := by
  refine ⟨hC0, ?_⟩
  refine mEnds.steps 3 (q' := (5, [some (.ref 1), some (.int x1), none, none, none], [.int x1, .ref 2], hC0, 0, 0)) rfl ?_
  refine mEnds.call (d := 19) (y' := 8) (as := [.ref 2, .int x1]) (q' := (8, [some (.ref 1), some (.int x1), none, none, none], [], hC0, 0, 0)) (v := some (.int 0)) (hs' := hC0) (c' := 0) (s' := 0) rfl rfl ?_ ?_
  · refine mEnds.steps 1 (q' := (1, [some (.ref 2), some (.int x1)], [.int x1], hC0, 0, 0)) rfl ?_
    refine mEnds.brF (q' := (4, [some (.ref 2), some (.int x1)], [], hC0, 0, 0)) rfl f0 rfl ?_
    refine mEnds.steps 3 (q' := (9, [some (.ref 2), some (.int x1)], [.int 0, .int x1], hC0, 0, 0)) rfl ?_
    refine mEnds.brT (q' := (16, [some (.ref 2), some (.int x1)], [], hC0, 0, 0)) rfl (mtk_ge f0) rfl ?_
    refine mEnds.steps 1 (q' := (17, [some (.ref 2), some (.int x1)], [.int 0], hC0, 0, 0)) rfl ?_
    exact mEnds.ret rfl
  show mEnds [] 20 91 (8, [some (.ref 1), some (.int x1), none, none, none], [.int 0], hC0, 0, 0) _
  refine mEnds.steps 2 (q' := (12, [some (.ref 1), some (.int x1), none, none, none], [.int (-1)], hC0, 0, 0)) rfl ?_
  exact mEnds.ret rfl
set_option maxRecDepth 100000 in
theorem m28_F (x1 : Int32) (f0 : decide (x1 < 0) = false) : ∃ hs', mEnds [] 20 172 (mentry 172 [.ref 1, .int x1] hM0) (some (.int (-1)), hs', 0, 0) := by
  refine ⟨hM0, ?_⟩
  refine mEnds.steps 2 (q' := (2, [some (.ref 1), some (.int x1)], [.int x1, .ref 1], hM0, 0, 0)) rfl ?_
  refine mEnds.call (d := 19) (y' := 126) (as := [.ref 1, .int x1]) (q' := (5, [some (.ref 1), some (.int x1)], [], hM0, 0, 0)) (v := some (.int 0)) (hs' := hM0) (c' := 0) (s' := 0) rfl rfl ?_ ?_
  · refine mEnds.steps 8 (q' := (10, [some (.ref 1), some (.int x1)], [.long (-1), .long 0, .long x1.toInt64], hM0, 0, 0)) rfl ?_
    refine mEnds.call (d := 18) (y' := 111) (as := [.long x1.toInt64, .long 0, .long (-1)]) (q' := (13, [some (.ref 1), some (.int x1)], [], hM0, 0, 0)) (v := some (.int 0)) (hs' := hM0) (c' := 0) (s' := 0) rfl rfl ?_ ?_
    · refine mEnds.steps 3 (q' := (3, [some (.long x1.toInt64), none, some (.long 0), none, some (.long (-1)), none], [.int (lg_cmp x1.toInt64 0)], hM0, 0, 0)) rfl ?_
      refine mEnds.brF (q' := (6, [some (.long x1.toInt64), none, some (.long 0), none, some (.long (-1)), none], [], hM0, 0, 0)) rfl (lgc_lt (c := 0) (by decide) f0) rfl ?_
      refine mEnds.steps 3 (q' := (10, [some (.long x1.toInt64), none, some (.long 0), none, some (.long (-1)), none], [.int (lg_cmp x1.toInt64 (-1))], hM0, 0, 0)) rfl ?_
      refine mEnds.brT (q' := (17, [some (.long x1.toInt64), none, some (.long 0), none, some (.long (-1)), none], [], hM0, 0, 0)) rfl (lgc_gt (c := (-1)) (by decide) (ltF_gtT f0 (by decide))) rfl ?_
      refine mEnds.steps 1 (q' := (18, [some (.long x1.toInt64), none, some (.long 0), none, some (.long (-1)), none], [.int 0], hM0, 0, 0)) rfl ?_
      exact mEnds.ret rfl
    show mEnds [] 19 126 (13, [some (.ref 1), some (.int x1)], [.int 0], hM0, 0, 0) _
    exact mEnds.ret rfl
  show mEnds [] 20 172 (5, [some (.ref 1), some (.int x1)], [.int 0], hM0, 0, 0) _
  refine mEnds.steps 2 (q' := (9, [some (.ref 1), some (.int x1)], [.int (-1)], hM0, 0, 0)) rfl ?_
  exact mEnds.ret rfl
theorem ok_28 (x1 x2 x3 x4 x5 : Int32) : callOK_28 x1 x2 x3 x4 x5 := by
  cases f0 : decide (x1 < 0) with
  | true =>
    obtain ⟨h1, a1⟩ := c28_T x1 f0
    obtain ⟨h2, a2⟩ := m28_T x1 f0
    exact ⟨_, h1, h2, a1, a2⟩
  | false =>
    obtain ⟨h1, a1⟩ := c28_F x1 f0
    obtain ⟨h2, a2⟩ := m28_F x1 f0
    exact ⟨_, h1, h2, a1, a2⟩
set_option maxRecDepth 100000 in
theorem c29_T (x1 : Int32) (f0 : decide (x1 < 0) = true) : ∃ hs', mEnds [] 20 92 (mentry 92 [.ref 1, .int x1] hC0) (some (.int (-1)), hs', 0, 0) := by
  refine ⟨hC0, ?_⟩
  refine mEnds.steps 3 (q' := (5, [some (.ref 1), some (.int x1)], [.int x1, .ref 2], hC0, 0, 0)) rfl ?_
  refine mEnds.call (d := 19) (y' := 9) (as := [.ref 2, .int x1]) (q' := (8, [some (.ref 1), some (.int x1)], [], hC0, 0, 0)) (v := some (.int 0)) (hs' := hC0) (c' := 0) (s' := 0) rfl rfl ?_ ?_
  · refine mEnds.steps 1 (q' := (1, [some (.ref 2), some (.int x1)], [.int x1], hC0, 0, 0)) rfl ?_
    refine mEnds.brT (q' := (18, [some (.ref 2), some (.int x1)], [], hC0, 0, 0)) rfl f0 rfl ?_
    refine mEnds.steps 1 (q' := (19, [some (.ref 2), some (.int x1)], [.int 0], hC0, 0, 0)) rfl ?_
    exact mEnds.ret rfl
  show mEnds [] 20 92 (8, [some (.ref 1), some (.int x1)], [.int 0], hC0, 0, 0) _
  refine mEnds.steps 2 (q' := (20, [some (.ref 1), some (.int x1)], [.int (-1)], hC0, 0, 0)) rfl ?_
  exact mEnds.ret rfl
set_option maxRecDepth 100000 in
theorem m29_T (x1 : Int32) (f0 : decide (x1 < 0) = true) : ∃ hs', mEnds [] 20 173 (mentry 173 [.ref 1, .int x1] hM0) (some (.int (-1)), hs', 0, 0) := by
  refine ⟨hM0, ?_⟩
  refine mEnds.steps 2 (q' := (2, [some (.ref 1), some (.int x1)], [.int x1, .ref 1], hM0, 0, 0)) rfl ?_
  refine mEnds.call (d := 19) (y' := 127) (as := [.ref 1, .int x1]) (q' := (5, [some (.ref 1), some (.int x1)], [], hM0, 0, 0)) (v := some (.int 0)) (hs' := hM0) (c' := 0) (s' := 0) rfl rfl ?_ ?_
  · refine mEnds.steps 8 (q' := (10, [some (.ref 1), some (.int x1)], [.long (-2), .long 0, .long x1.toInt64], hM0, 0, 0)) rfl ?_
    refine mEnds.call (d := 18) (y' := 111) (as := [.long x1.toInt64, .long 0, .long (-2)]) (q' := (13, [some (.ref 1), some (.int x1)], [], hM0, 0, 0)) (v := some (.int 0)) (hs' := hM0) (c' := 0) (s' := 0) rfl rfl ?_ ?_
    · refine mEnds.steps 3 (q' := (3, [some (.long x1.toInt64), none, some (.long 0), none, some (.long (-2)), none], [.int (lg_cmp x1.toInt64 0)], hM0, 0, 0)) rfl ?_
      refine mEnds.brT (q' := (17, [some (.long x1.toInt64), none, some (.long 0), none, some (.long (-2)), none], [], hM0, 0, 0)) rfl (lgc_lt (c := 0) (by decide) f0) rfl ?_
      refine mEnds.steps 1 (q' := (18, [some (.long x1.toInt64), none, some (.long 0), none, some (.long (-2)), none], [.int 0], hM0, 0, 0)) rfl ?_
      exact mEnds.ret rfl
    show mEnds [] 19 127 (13, [some (.ref 1), some (.int x1)], [.int 0], hM0, 0, 0) _
    exact mEnds.ret rfl
  show mEnds [] 20 173 (5, [some (.ref 1), some (.int x1)], [.int 0], hM0, 0, 0) _
  refine mEnds.steps 2 (q' := (24, [some (.ref 1), some (.int x1)], [.int (-1)], hM0, 0, 0)) rfl ?_
  exact mEnds.ret rfl
set_option maxRecDepth 100000 in
theorem c29_F (x1 : Int32) (f0 : decide (x1 < 0) = false) : ∃ hs', mEnds [] 20 92 (mentry 92 [.ref 1, .int x1] hC0) (some (.int (-1)), hs', 0, 0) := by
  refine ⟨hC0, ?_⟩
  refine mEnds.steps 3 (q' := (5, [some (.ref 1), some (.int x1)], [.int x1, .ref 2], hC0, 0, 0)) rfl ?_
  refine mEnds.call (d := 19) (y' := 9) (as := [.ref 2, .int x1]) (q' := (8, [some (.ref 1), some (.int x1)], [], hC0, 0, 0)) (v := some (.int 0)) (hs' := hC0) (c' := 0) (s' := 0) rfl rfl ?_ ?_
  · refine mEnds.steps 1 (q' := (1, [some (.ref 2), some (.int x1)], [.int x1], hC0, 0, 0)) rfl ?_
    refine mEnds.brF (q' := (4, [some (.ref 2), some (.int x1)], [], hC0, 0, 0)) rfl f0 rfl ?_
    refine mEnds.steps 5 (q' := (11, [some (.ref 2), some (.int x1)], [.int (-1), .int x1], hC0, 0, 0)) rfl ?_
    refine mEnds.brT (q' := (18, [some (.ref 2), some (.int x1)], [], hC0, 0, 0)) rfl (mtk_ge (lt_F f0 (by decide))) rfl ?_
    refine mEnds.steps 1 (q' := (19, [some (.ref 2), some (.int x1)], [.int 0], hC0, 0, 0)) rfl ?_
    exact mEnds.ret rfl
  show mEnds [] 20 92 (8, [some (.ref 1), some (.int x1)], [.int 0], hC0, 0, 0) _
  refine mEnds.steps 2 (q' := (20, [some (.ref 1), some (.int x1)], [.int (-1)], hC0, 0, 0)) rfl ?_
  exact mEnds.ret rfl
set_option maxRecDepth 100000 in
theorem m29_F (x1 : Int32) (f0 : decide (x1 < 0) = false) : ∃ hs', mEnds [] 20 173 (mentry 173 [.ref 1, .int x1] hM0) (some (.int (-1)), hs', 0, 0) := by
  refine ⟨hM0, ?_⟩
  refine mEnds.steps 2 (q' := (2, [some (.ref 1), some (.int x1)], [.int x1, .ref 1], hM0, 0, 0)) rfl ?_
  refine mEnds.call (d := 19) (y' := 127) (as := [.ref 1, .int x1]) (q' := (5, [some (.ref 1), some (.int x1)], [], hM0, 0, 0)) (v := some (.int 0)) (hs' := hM0) (c' := 0) (s' := 0) rfl rfl ?_ ?_
  · refine mEnds.steps 8 (q' := (10, [some (.ref 1), some (.int x1)], [.long (-2), .long 0, .long x1.toInt64], hM0, 0, 0)) rfl ?_
    refine mEnds.call (d := 18) (y' := 111) (as := [.long x1.toInt64, .long 0, .long (-2)]) (q' := (13, [some (.ref 1), some (.int x1)], [], hM0, 0, 0)) (v := some (.int 0)) (hs' := hM0) (c' := 0) (s' := 0) rfl rfl ?_ ?_
    · refine mEnds.steps 3 (q' := (3, [some (.long x1.toInt64), none, some (.long 0), none, some (.long (-2)), none], [.int (lg_cmp x1.toInt64 0)], hM0, 0, 0)) rfl ?_
      refine mEnds.brF (q' := (6, [some (.long x1.toInt64), none, some (.long 0), none, some (.long (-2)), none], [], hM0, 0, 0)) rfl (lgc_lt (c := 0) (by decide) f0) rfl ?_
      refine mEnds.steps 3 (q' := (10, [some (.long x1.toInt64), none, some (.long 0), none, some (.long (-2)), none], [.int (lg_cmp x1.toInt64 (-2))], hM0, 0, 0)) rfl ?_
      refine mEnds.brT (q' := (17, [some (.long x1.toInt64), none, some (.long 0), none, some (.long (-2)), none], [], hM0, 0, 0)) rfl (lgc_gt (c := (-2)) (by decide) (ltF_gtT f0 (by decide))) rfl ?_
      refine mEnds.steps 1 (q' := (18, [some (.long x1.toInt64), none, some (.long 0), none, some (.long (-2)), none], [.int 0], hM0, 0, 0)) rfl ?_
      exact mEnds.ret rfl
    show mEnds [] 19 127 (13, [some (.ref 1), some (.int x1)], [.int 0], hM0, 0, 0) _
    exact mEnds.ret rfl
  show mEnds [] 20 173 (5, [some (.ref 1), some (.int x1)], [.int 0], hM0, 0, 0) _
  refine mEnds.steps 2 (q' := (24, [some (.ref 1), some (.int x1)], [.int (-1)], hM0, 0, 0)) rfl ?_
  exact mEnds.ret rfl
theorem ok_29 (x1 x2 x3 x4 x5 : Int32) : callOK_29 x1 x2 x3 x4 x5 := by
  cases f0 : decide (x1 < 0) with
  | true =>
    obtain ⟨h1, a1⟩ := c29_T x1 f0
    obtain ⟨h2, a2⟩ := m29_T x1 f0
    exact ⟨_, h1, h2, a1, a2⟩
  | false =>
    obtain ⟨h1, a1⟩ := c29_F x1 f0
    obtain ⟨h2, a2⟩ := m29_F x1 f0
    exact ⟨_, h1, h2, a1, a2⟩
set_option maxRecDepth 100000 in
theorem c30_T (x1 x2 : Int32) (f0 : decide (x1 < 0) = true) : ∃ hs', mEnds [] 20 94 (mentry 94 [.ref 1, .int x1, .int x2] hC0) (some (.int (-1)), hs', 0, 0) := by
  refine ⟨hC0, ?_⟩
  refine mEnds.steps 3 (q' := (5, [some (.ref 1), some (.int x1), some (.int x2), none, none, none, none, none, none], [.int x1, .ref 2], hC0, 0, 0)) rfl ?_
  refine mEnds.call (d := 19) (y' := 9) (as := [.ref 2, .int x1]) (q' := (8, [some (.ref 1), some (.int x1), some (.int x2), none, none, none, none, none, none], [], hC0, 0, 0)) (v := some (.int 0)) (hs' := hC0) (c' := 0) (s' := 0) rfl rfl ?_ ?_
  · refine mEnds.steps 1 (q' := (1, [some (.ref 2), some (.int x1)], [.int x1], hC0, 0, 0)) rfl ?_
    refine mEnds.brT (q' := (18, [some (.ref 2), some (.int x1)], [], hC0, 0, 0)) rfl f0 rfl ?_
    refine mEnds.steps 1 (q' := (19, [some (.ref 2), some (.int x1)], [.int 0], hC0, 0, 0)) rfl ?_
    exact mEnds.ret rfl
  show mEnds [] 20 94 (8, [some (.ref 1), some (.int x1), some (.int x2), none, none, none, none, none, none], [.int 0], hC0, 0, 0) _
  refine mEnds.steps 2 (q' := (21, [some (.ref 1), some (.int x1), some (.int x2), none, none, none, none, none, none], [.int (-1)], hC0, 0, 0)) rfl ?_
  exact mEnds.ret rfl
set_option maxRecDepth 100000 in
theorem m30_T (x1 x2 : Int32) (f0 : decide (x1 < 0) = true) : ∃ hs', mEnds [] 20 175 (mentry 175 [.ref 1, .int x1, .int x2] hM0) (some (.int (-1)), hs', 0, 0) := by
  refine ⟨hM0, ?_⟩
  refine mEnds.steps 2 (q' := (2, [some (.ref 1), some (.int x1), some (.int x2), none, none, none, none, none, none], [.int x1, .ref 1], hM0, 0, 0)) rfl ?_
  refine mEnds.call (d := 19) (y' := 127) (as := [.ref 1, .int x1]) (q' := (5, [some (.ref 1), some (.int x1), some (.int x2), none, none, none, none, none, none], [], hM0, 0, 0)) (v := some (.int 0)) (hs' := hM0) (c' := 0) (s' := 0) rfl rfl ?_ ?_
  · refine mEnds.steps 8 (q' := (10, [some (.ref 1), some (.int x1)], [.long (-2), .long 0, .long x1.toInt64], hM0, 0, 0)) rfl ?_
    refine mEnds.call (d := 18) (y' := 111) (as := [.long x1.toInt64, .long 0, .long (-2)]) (q' := (13, [some (.ref 1), some (.int x1)], [], hM0, 0, 0)) (v := some (.int 0)) (hs' := hM0) (c' := 0) (s' := 0) rfl rfl ?_ ?_
    · refine mEnds.steps 3 (q' := (3, [some (.long x1.toInt64), none, some (.long 0), none, some (.long (-2)), none], [.int (lg_cmp x1.toInt64 0)], hM0, 0, 0)) rfl ?_
      refine mEnds.brT (q' := (17, [some (.long x1.toInt64), none, some (.long 0), none, some (.long (-2)), none], [], hM0, 0, 0)) rfl (lgc_lt (c := 0) (by decide) f0) rfl ?_
      refine mEnds.steps 1 (q' := (18, [some (.long x1.toInt64), none, some (.long 0), none, some (.long (-2)), none], [.int 0], hM0, 0, 0)) rfl ?_
      exact mEnds.ret rfl
    show mEnds [] 19 127 (13, [some (.ref 1), some (.int x1)], [.int 0], hM0, 0, 0) _
    exact mEnds.ret rfl
  show mEnds [] 20 175 (5, [some (.ref 1), some (.int x1), some (.int x2), none, none, none, none, none, none], [.int 0], hM0, 0, 0) _
  refine mEnds.steps 2 (q' := (19, [some (.ref 1), some (.int x1), some (.int x2), none, none, none, none, none, none], [.int (-1)], hM0, 0, 0)) rfl ?_
  exact mEnds.ret rfl
set_option maxRecDepth 100000 in
theorem c30_F (x1 x2 : Int32) (f0 : decide (x1 < 0) = false) : ∃ hs', mEnds [] 20 94 (mentry 94 [.ref 1, .int x1, .int x2] hC0) (some (.int (-1)), hs', 0, 0) := by
  refine ⟨hC0, ?_⟩
  refine mEnds.steps 3 (q' := (5, [some (.ref 1), some (.int x1), some (.int x2), none, none, none, none, none, none], [.int x1, .ref 2], hC0, 0, 0)) rfl ?_
  refine mEnds.call (d := 19) (y' := 9) (as := [.ref 2, .int x1]) (q' := (8, [some (.ref 1), some (.int x1), some (.int x2), none, none, none, none, none, none], [], hC0, 0, 0)) (v := some (.int 0)) (hs' := hC0) (c' := 0) (s' := 0) rfl rfl ?_ ?_
  · refine mEnds.steps 1 (q' := (1, [some (.ref 2), some (.int x1)], [.int x1], hC0, 0, 0)) rfl ?_
    refine mEnds.brF (q' := (4, [some (.ref 2), some (.int x1)], [], hC0, 0, 0)) rfl f0 rfl ?_
    refine mEnds.steps 5 (q' := (11, [some (.ref 2), some (.int x1)], [.int (-1), .int x1], hC0, 0, 0)) rfl ?_
    refine mEnds.brT (q' := (18, [some (.ref 2), some (.int x1)], [], hC0, 0, 0)) rfl (mtk_ge (lt_F f0 (by decide))) rfl ?_
    refine mEnds.steps 1 (q' := (19, [some (.ref 2), some (.int x1)], [.int 0], hC0, 0, 0)) rfl ?_
    exact mEnds.ret rfl
  show mEnds [] 20 94 (8, [some (.ref 1), some (.int x1), some (.int x2), none, none, none, none, none, none], [.int 0], hC0, 0, 0) _
  refine mEnds.steps 2 (q' := (21, [some (.ref 1), some (.int x1), some (.int x2), none, none, none, none, none, none], [.int (-1)], hC0, 0, 0)) rfl ?_
  exact mEnds.ret rfl
set_option maxRecDepth 100000 in
theorem m30_F (x1 x2 : Int32) (f0 : decide (x1 < 0) = false) : ∃ hs', mEnds [] 20 175 (mentry 175 [.ref 1, .int x1, .int x2] hM0) (some (.int (-1)), hs', 0, 0) := by
  refine ⟨hM0, ?_⟩
  refine mEnds.steps 2 (q' := (2, [some (.ref 1), some (.int x1), some (.int x2), none, none, none, none, none, none], [.int x1, .ref 1], hM0, 0, 0)) rfl ?_
  refine mEnds.call (d := 19) (y' := 127) (as := [.ref 1, .int x1]) (q' := (5, [some (.ref 1), some (.int x1), some (.int x2), none, none, none, none, none, none], [], hM0, 0, 0)) (v := some (.int 0)) (hs' := hM0) (c' := 0) (s' := 0) rfl rfl ?_ ?_
  · refine mEnds.steps 8 (q' := (10, [some (.ref 1), some (.int x1)], [.long (-2), .long 0, .long x1.toInt64], hM0, 0, 0)) rfl ?_
    refine mEnds.call (d := 18) (y' := 111) (as := [.long x1.toInt64, .long 0, .long (-2)]) (q' := (13, [some (.ref 1), some (.int x1)], [], hM0, 0, 0)) (v := some (.int 0)) (hs' := hM0) (c' := 0) (s' := 0) rfl rfl ?_ ?_
    · refine mEnds.steps 3 (q' := (3, [some (.long x1.toInt64), none, some (.long 0), none, some (.long (-2)), none], [.int (lg_cmp x1.toInt64 0)], hM0, 0, 0)) rfl ?_
      refine mEnds.brF (q' := (6, [some (.long x1.toInt64), none, some (.long 0), none, some (.long (-2)), none], [], hM0, 0, 0)) rfl (lgc_lt (c := 0) (by decide) f0) rfl ?_
      refine mEnds.steps 3 (q' := (10, [some (.long x1.toInt64), none, some (.long 0), none, some (.long (-2)), none], [.int (lg_cmp x1.toInt64 (-2))], hM0, 0, 0)) rfl ?_
      refine mEnds.brT (q' := (17, [some (.long x1.toInt64), none, some (.long 0), none, some (.long (-2)), none], [], hM0, 0, 0)) rfl (lgc_gt (c := (-2)) (by decide) (ltF_gtT f0 (by decide))) rfl ?_
      refine mEnds.steps 1 (q' := (18, [some (.long x1.toInt64), none, some (.long 0), none, some (.long (-2)), none], [.int 0], hM0, 0, 0)) rfl ?_
      exact mEnds.ret rfl
    show mEnds [] 19 127 (13, [some (.ref 1), some (.int x1)], [.int 0], hM0, 0, 0) _
    exact mEnds.ret rfl
  show mEnds [] 20 175 (5, [some (.ref 1), some (.int x1), some (.int x2), none, none, none, none, none, none], [.int 0], hM0, 0, 0) _
  refine mEnds.steps 2 (q' := (19, [some (.ref 1), some (.int x1), some (.int x2), none, none, none, none, none, none], [.int (-1)], hM0, 0, 0)) rfl ?_
  exact mEnds.ret rfl
theorem ok_30 (x1 x2 x3 x4 x5 : Int32) : callOK_30 x1 x2 x3 x4 x5 := by
  cases f0 : decide (x1 < 0) with
  | true =>
    obtain ⟨h1, a1⟩ := c30_T x1 x2 f0
    obtain ⟨h2, a2⟩ := m30_T x1 x2 f0
    exact ⟨_, h1, h2, a1, a2⟩
  | false =>
    obtain ⟨h1, a1⟩ := c30_F x1 x2 f0
    obtain ⟨h2, a2⟩ := m30_F x1 x2 f0
    exact ⟨_, h1, h2, a1, a2⟩
set_option maxRecDepth 100000 in
theorem c31_T (x1 x2 x3 : Int32) (f0 : decide (x2 < 1) = true) : ∃ hs', mEnds [] 20 97 (mentry 97 [.ref 1, .int x1, .int x2, .int x3] hC0) (some (.int (-1)), hs', 0, 0) := by
  refine ⟨hC0, ?_⟩
  refine mEnds.steps 3 (q' := (4, [some (.ref 1), some (.int x1), some (.int x2), some (.int x3), none, none, none], [.int 60, .int 1, .int x2], hC0, 0, 0)) rfl ?_
  refine mEnds.call (d := 19) (y' := 105) (as := [.int x2, .int 1, .int 60]) (q' := (7, [some (.ref 1), some (.int x1), some (.int x2), some (.int x3), none, none, none], [], hC0, 0, 0)) (v := some (.int 0)) (hs' := hC0) (c' := 0) (s' := 0) rfl rfl ?_ ?_
  · refine mEnds.steps 2 (q' := (2, [some (.int x2), some (.int 1), some (.int 60)], [.int 1, .int x2], hC0, 0, 0)) rfl ?_
    refine mEnds.brT (q' := (14, [some (.int x2), some (.int 1), some (.int 60)], [], hC0, 0, 0)) rfl f0 rfl ?_
    refine mEnds.steps 1 (q' := (15, [some (.int x2), some (.int 1), some (.int 60)], [.int 0], hC0, 0, 0)) rfl ?_
    exact mEnds.ret rfl
  show mEnds [] 20 97 (7, [some (.ref 1), some (.int x1), some (.int x2), some (.int x3), none, none, none], [.int 0], hC0, 0, 0) _
  refine mEnds.steps 2 (q' := (20, [some (.ref 1), some (.int x1), some (.int x2), some (.int x3), none, none, none], [.int (-1)], hC0, 0, 0)) rfl ?_
  exact mEnds.ret rfl
set_option maxRecDepth 100000 in
theorem m31_T (x1 x2 x3 : Int32) (f0 : decide (x2 < 1) = true) : ∃ hs', mEnds [] 20 176 (mentry 176 [.ref 1, .int x1, .int x2, .int x3] hM0) (some (.int (-1)), hs', 0, 0) := by
  refine ⟨hM0, ?_⟩
  refine mEnds.steps 4 (q' := (6, [some (.ref 1), some (.int x1), some (.int x2), some (.int x3), none, none], [.long 60, .long 1, .long x2.toInt64], hM0, 0, 0)) rfl ?_
  refine mEnds.call (d := 19) (y' := 111) (as := [.long x2.toInt64, .long 1, .long 60]) (q' := (9, [some (.ref 1), some (.int x1), some (.int x2), some (.int x3), none, none], [], hM0, 0, 0)) (v := some (.int 0)) (hs' := hM0) (c' := 0) (s' := 0) rfl rfl ?_ ?_
  · refine mEnds.steps 3 (q' := (3, [some (.long x2.toInt64), none, some (.long 1), none, some (.long 60), none], [.int (lg_cmp x2.toInt64 1)], hM0, 0, 0)) rfl ?_
    refine mEnds.brT (q' := (17, [some (.long x2.toInt64), none, some (.long 1), none, some (.long 60), none], [], hM0, 0, 0)) rfl (lgc_lt (c := 1) (by decide) f0) rfl ?_
    refine mEnds.steps 1 (q' := (18, [some (.long x2.toInt64), none, some (.long 1), none, some (.long 60), none], [.int 0], hM0, 0, 0)) rfl ?_
    exact mEnds.ret rfl
  show mEnds [] 20 176 (9, [some (.ref 1), some (.int x1), some (.int x2), some (.int x3), none, none], [.int 0], hM0, 0, 0) _
  refine mEnds.steps 2 (q' := (23, [some (.ref 1), some (.int x1), some (.int x2), some (.int x3), none, none], [.int (-1)], hM0, 0, 0)) rfl ?_
  exact mEnds.ret rfl
set_option maxRecDepth 100000 in
theorem c31_FT (x1 x2 x3 : Int32) (f0 : decide (x2 < 1) = false) (f1 : decide (60 < x2) = true) : ∃ hs', mEnds [] 20 97 (mentry 97 [.ref 1, .int x1, .int x2, .int x3] hC0) (some (.int (-1)), hs', 0, 0) := by
  refine ⟨hC0, ?_⟩
  refine mEnds.steps 3 (q' := (4, [some (.ref 1), some (.int x1), some (.int x2), some (.int x3), none, none, none], [.int 60, .int 1, .int x2], hC0, 0, 0)) rfl ?_
  refine mEnds.call (d := 19) (y' := 105) (as := [.int x2, .int 1, .int 60]) (q' := (7, [some (.ref 1), some (.int x1), some (.int x2), some (.int x3), none, none, none], [], hC0, 0, 0)) (v := some (.int 0)) (hs' := hC0) (c' := 0) (s' := 0) rfl rfl ?_ ?_
  · refine mEnds.steps 2 (q' := (2, [some (.int x2), some (.int 1), some (.int 60)], [.int 1, .int x2], hC0, 0, 0)) rfl ?_
    refine mEnds.brF (q' := (5, [some (.int x2), some (.int 1), some (.int 60)], [], hC0, 0, 0)) rfl f0 rfl ?_
    refine mEnds.steps 2 (q' := (7, [some (.int x2), some (.int 1), some (.int 60)], [.int 60, .int x2], hC0, 0, 0)) rfl ?_
    refine mEnds.brT (q' := (14, [some (.int x2), some (.int 1), some (.int 60)], [], hC0, 0, 0)) rfl f1 rfl ?_
    refine mEnds.steps 1 (q' := (15, [some (.int x2), some (.int 1), some (.int 60)], [.int 0], hC0, 0, 0)) rfl ?_
    exact mEnds.ret rfl
  show mEnds [] 20 97 (7, [some (.ref 1), some (.int x1), some (.int x2), some (.int x3), none, none, none], [.int 0], hC0, 0, 0) _
  refine mEnds.steps 2 (q' := (20, [some (.ref 1), some (.int x1), some (.int x2), some (.int x3), none, none, none], [.int (-1)], hC0, 0, 0)) rfl ?_
  exact mEnds.ret rfl
set_option maxRecDepth 100000 in
theorem m31_FT (x1 x2 x3 : Int32) (f0 : decide (x2 < 1) = false) (f1 : decide (60 < x2) = true) : ∃ hs', mEnds [] 20 176 (mentry 176 [.ref 1, .int x1, .int x2, .int x3] hM0) (some (.int (-1)), hs', 0, 0) := by
  refine ⟨hM0, ?_⟩
  refine mEnds.steps 4 (q' := (6, [some (.ref 1), some (.int x1), some (.int x2), some (.int x3), none, none], [.long 60, .long 1, .long x2.toInt64], hM0, 0, 0)) rfl ?_
  refine mEnds.call (d := 19) (y' := 111) (as := [.long x2.toInt64, .long 1, .long 60]) (q' := (9, [some (.ref 1), some (.int x1), some (.int x2), some (.int x3), none, none], [], hM0, 0, 0)) (v := some (.int 0)) (hs' := hM0) (c' := 0) (s' := 0) rfl rfl ?_ ?_
  · refine mEnds.steps 3 (q' := (3, [some (.long x2.toInt64), none, some (.long 1), none, some (.long 60), none], [.int (lg_cmp x2.toInt64 1)], hM0, 0, 0)) rfl ?_
    refine mEnds.brF (q' := (6, [some (.long x2.toInt64), none, some (.long 1), none, some (.long 60), none], [], hM0, 0, 0)) rfl (lgc_lt (c := 1) (by decide) f0) rfl ?_
    refine mEnds.steps 3 (q' := (10, [some (.long x2.toInt64), none, some (.long 1), none, some (.long 60), none], [.int (lg_cmp x2.toInt64 60)], hM0, 0, 0)) rfl ?_
    refine mEnds.brT (q' := (17, [some (.long x2.toInt64), none, some (.long 1), none, some (.long 60), none], [], hM0, 0, 0)) rfl (lgc_gt (c := 60) (by decide) f1) rfl ?_
    refine mEnds.steps 1 (q' := (18, [some (.long x2.toInt64), none, some (.long 1), none, some (.long 60), none], [.int 0], hM0, 0, 0)) rfl ?_
    exact mEnds.ret rfl
  show mEnds [] 20 176 (9, [some (.ref 1), some (.int x1), some (.int x2), some (.int x3), none, none], [.int 0], hM0, 0, 0) _
  refine mEnds.steps 2 (q' := (23, [some (.ref 1), some (.int x1), some (.int x2), some (.int x3), none, none], [.int (-1)], hM0, 0, 0)) rfl ?_
  exact mEnds.ret rfl
set_option maxRecDepth 100000 in
theorem c31_FFT (x1 x2 x3 : Int32) (f0 : decide (x2 < 1) = false) (f1 : decide (60 < x2) = false) (f2 : decide (x3 < 0) = true) : ∃ hs', mEnds [] 20 97 (mentry 97 [.ref 1, .int x1, .int x2, .int x3] hC0) (some (.int (-1)), hs', 0, 0) := by
  refine ⟨hC0, ?_⟩
  refine mEnds.steps 3 (q' := (4, [some (.ref 1), some (.int x1), some (.int x2), some (.int x3), none, none, none], [.int 60, .int 1, .int x2], hC0, 0, 0)) rfl ?_
  refine mEnds.call (d := 19) (y' := 105) (as := [.int x2, .int 1, .int 60]) (q' := (7, [some (.ref 1), some (.int x1), some (.int x2), some (.int x3), none, none, none], [], hC0, 0, 0)) (v := some (.int 1)) (hs' := hC0) (c' := 0) (s' := 0) rfl rfl ?_ ?_
  · refine mEnds.steps 2 (q' := (2, [some (.int x2), some (.int 1), some (.int 60)], [.int 1, .int x2], hC0, 0, 0)) rfl ?_
    refine mEnds.brF (q' := (5, [some (.int x2), some (.int 1), some (.int 60)], [], hC0, 0, 0)) rfl f0 rfl ?_
    refine mEnds.steps 2 (q' := (7, [some (.int x2), some (.int 1), some (.int 60)], [.int 60, .int x2], hC0, 0, 0)) rfl ?_
    refine mEnds.brF (q' := (10, [some (.int x2), some (.int 1), some (.int 60)], [], hC0, 0, 0)) rfl f1 rfl ?_
    refine mEnds.steps 2 (q' := (15, [some (.int x2), some (.int 1), some (.int 60)], [.int 1], hC0, 0, 0)) rfl ?_
    exact mEnds.ret rfl
  show mEnds [] 20 97 (7, [some (.ref 1), some (.int x1), some (.int x2), some (.int x3), none, none, none], [.int 1], hC0, 0, 0) _
  refine mEnds.steps 4 (q' := (13, [some (.ref 1), some (.int x1), some (.int x2), some (.int x3), none, none, none], [.int 1, .int 0, .int x3], hC0, 0, 0)) rfl ?_
  refine mEnds.call (d := 19) (y' := 105) (as := [.int x3, .int 0, .int 1]) (q' := (16, [some (.ref 1), some (.int x1), some (.int x2), some (.int x3), none, none, none], [], hC0, 0, 0)) (v := some (.int 0)) (hs' := hC0) (c' := 0) (s' := 0) rfl rfl ?_ ?_
  · refine mEnds.steps 2 (q' := (2, [some (.int x3), some (.int 0), some (.int 1)], [.int 0, .int x3], hC0, 0, 0)) rfl ?_
    refine mEnds.brT (q' := (14, [some (.int x3), some (.int 0), some (.int 1)], [], hC0, 0, 0)) rfl f2 rfl ?_
    refine mEnds.steps 1 (q' := (15, [some (.int x3), some (.int 0), some (.int 1)], [.int 0], hC0, 0, 0)) rfl ?_
    exact mEnds.ret rfl
  show mEnds [] 20 97 (16, [some (.ref 1), some (.int x1), some (.int x2), some (.int x3), none, none, none], [.int 0], hC0, 0, 0) _
  refine mEnds.steps 2 (q' := (20, [some (.ref 1), some (.int x1), some (.int x2), some (.int x3), none, none, none], [.int (-1)], hC0, 0, 0)) rfl ?_
  exact mEnds.ret rfl
set_option maxRecDepth 100000 in
theorem m31_FFT (x1 x2 x3 : Int32) (f0 : decide (x2 < 1) = false) (f1 : decide (60 < x2) = false) (f2 : decide (x3 < 0) = true) : ∃ hs', mEnds [] 20 176 (mentry 176 [.ref 1, .int x1, .int x2, .int x3] hM0) (some (.int (-1)), hs', 0, 0) := by
  refine ⟨hM0, ?_⟩
  refine mEnds.steps 4 (q' := (6, [some (.ref 1), some (.int x1), some (.int x2), some (.int x3), none, none], [.long 60, .long 1, .long x2.toInt64], hM0, 0, 0)) rfl ?_
  refine mEnds.call (d := 19) (y' := 111) (as := [.long x2.toInt64, .long 1, .long 60]) (q' := (9, [some (.ref 1), some (.int x1), some (.int x2), some (.int x3), none, none], [], hM0, 0, 0)) (v := some (.int 1)) (hs' := hM0) (c' := 0) (s' := 0) rfl rfl ?_ ?_
  · refine mEnds.steps 3 (q' := (3, [some (.long x2.toInt64), none, some (.long 1), none, some (.long 60), none], [.int (lg_cmp x2.toInt64 1)], hM0, 0, 0)) rfl ?_
    refine mEnds.brF (q' := (6, [some (.long x2.toInt64), none, some (.long 1), none, some (.long 60), none], [], hM0, 0, 0)) rfl (lgc_lt (c := 1) (by decide) f0) rfl ?_
    refine mEnds.steps 3 (q' := (10, [some (.long x2.toInt64), none, some (.long 1), none, some (.long 60), none], [.int (lg_cmp x2.toInt64 60)], hM0, 0, 0)) rfl ?_
    refine mEnds.brF (q' := (13, [some (.long x2.toInt64), none, some (.long 1), none, some (.long 60), none], [], hM0, 0, 0)) rfl (lgc_gt (c := 60) (by decide) f1) rfl ?_
    refine mEnds.steps 2 (q' := (18, [some (.long x2.toInt64), none, some (.long 1), none, some (.long 60), none], [.int 1], hM0, 0, 0)) rfl ?_
    exact mEnds.ret rfl
  show mEnds [] 20 176 (9, [some (.ref 1), some (.int x1), some (.int x2), some (.int x3), none, none], [.int 1], hM0, 0, 0) _
  refine mEnds.steps 5 (q' := (16, [some (.ref 1), some (.int x1), some (.int x2), some (.int x3), none, none], [.long 1, .long 0, .long x3.toInt64], hM0, 0, 0)) rfl ?_
  refine mEnds.call (d := 19) (y' := 111) (as := [.long x3.toInt64, .long 0, .long 1]) (q' := (19, [some (.ref 1), some (.int x1), some (.int x2), some (.int x3), none, none], [], hM0, 0, 0)) (v := some (.int 0)) (hs' := hM0) (c' := 0) (s' := 0) rfl rfl ?_ ?_
  · refine mEnds.steps 3 (q' := (3, [some (.long x3.toInt64), none, some (.long 0), none, some (.long 1), none], [.int (lg_cmp x3.toInt64 0)], hM0, 0, 0)) rfl ?_
    refine mEnds.brT (q' := (17, [some (.long x3.toInt64), none, some (.long 0), none, some (.long 1), none], [], hM0, 0, 0)) rfl (lgc_lt (c := 0) (by decide) f2) rfl ?_
    refine mEnds.steps 1 (q' := (18, [some (.long x3.toInt64), none, some (.long 0), none, some (.long 1), none], [.int 0], hM0, 0, 0)) rfl ?_
    exact mEnds.ret rfl
  show mEnds [] 20 176 (19, [some (.ref 1), some (.int x1), some (.int x2), some (.int x3), none, none], [.int 0], hM0, 0, 0) _
  refine mEnds.steps 2 (q' := (23, [some (.ref 1), some (.int x1), some (.int x2), some (.int x3), none, none], [.int (-1)], hM0, 0, 0)) rfl ?_
  exact mEnds.ret rfl
set_option maxRecDepth 100000 in
theorem c31_FFFT (x1 x2 x3 : Int32) (f0 : decide (x2 < 1) = false) (f1 : decide (60 < x2) = false) (f2 : decide (x3 < 0) = false) (f3 : decide (1 < x3) = true) : ∃ hs', mEnds [] 20 97 (mentry 97 [.ref 1, .int x1, .int x2, .int x3] hC0) (some (.int (-1)), hs', 0, 0) := by
  refine ⟨hC0, ?_⟩
  refine mEnds.steps 3 (q' := (4, [some (.ref 1), some (.int x1), some (.int x2), some (.int x3), none, none, none], [.int 60, .int 1, .int x2], hC0, 0, 0)) rfl ?_
  refine mEnds.call (d := 19) (y' := 105) (as := [.int x2, .int 1, .int 60]) (q' := (7, [some (.ref 1), some (.int x1), some (.int x2), some (.int x3), none, none, none], [], hC0, 0, 0)) (v := some (.int 1)) (hs' := hC0) (c' := 0) (s' := 0) rfl rfl ?_ ?_
  · refine mEnds.steps 2 (q' := (2, [some (.int x2), some (.int 1), some (.int 60)], [.int 1, .int x2], hC0, 0, 0)) rfl ?_
    refine mEnds.brF (q' := (5, [some (.int x2), some (.int 1), some (.int 60)], [], hC0, 0, 0)) rfl f0 rfl ?_
    refine mEnds.steps 2 (q' := (7, [some (.int x2), some (.int 1), some (.int 60)], [.int 60, .int x2], hC0, 0, 0)) rfl ?_
    refine mEnds.brF (q' := (10, [some (.int x2), some (.int 1), some (.int 60)], [], hC0, 0, 0)) rfl f1 rfl ?_
    refine mEnds.steps 2 (q' := (15, [some (.int x2), some (.int 1), some (.int 60)], [.int 1], hC0, 0, 0)) rfl ?_
    exact mEnds.ret rfl
  show mEnds [] 20 97 (7, [some (.ref 1), some (.int x1), some (.int x2), some (.int x3), none, none, none], [.int 1], hC0, 0, 0) _
  refine mEnds.steps 4 (q' := (13, [some (.ref 1), some (.int x1), some (.int x2), some (.int x3), none, none, none], [.int 1, .int 0, .int x3], hC0, 0, 0)) rfl ?_
  refine mEnds.call (d := 19) (y' := 105) (as := [.int x3, .int 0, .int 1]) (q' := (16, [some (.ref 1), some (.int x1), some (.int x2), some (.int x3), none, none, none], [], hC0, 0, 0)) (v := some (.int 0)) (hs' := hC0) (c' := 0) (s' := 0) rfl rfl ?_ ?_
  · refine mEnds.steps 2 (q' := (2, [some (.int x3), some (.int 0), some (.int 1)], [.int 0, .int x3], hC0, 0, 0)) rfl ?_
    refine mEnds.brF (q' := (5, [some (.int x3), some (.int 0), some (.int 1)], [], hC0, 0, 0)) rfl f2 rfl ?_
    refine mEnds.steps 2 (q' := (7, [some (.int x3), some (.int 0), some (.int 1)], [.int 1, .int x3], hC0, 0, 0)) rfl ?_
    refine mEnds.brT (q' := (14, [some (.int x3), some (.int 0), some (.int 1)], [], hC0, 0, 0)) rfl f3 rfl ?_
    refine mEnds.steps 1 (q' := (15, [some (.int x3), some (.int 0), some (.int 1)], [.int 0], hC0, 0, 0)) rfl ?_
    exact mEnds.ret rfl
  show mEnds [] 20 97 (16, [some (.ref 1), some (.int x1), some (.int x2), some (.int x3), none, none, none], [.int 0], hC0, 0, 0) _
  refine mEnds.steps 2 (q' := (20, [some (.ref 1), some (.int x1), some (.int x2), some (.int x3), none, none, none], [.int (-1)], hC0, 0, 0)) rfl ?_
  exact mEnds.ret rfl
set_option maxRecDepth 100000 in
theorem m31_FFFT (x1 x2 x3 : Int32) (f0 : decide (x2 < 1) = false) (f1 : decide (60 < x2) = false) (f2 : decide (x3 < 0) = false) (f3 : decide (1 < x3) = true) : ∃ hs', mEnds [] 20 176 (mentry 176 [.ref 1, .int x1, .int x2, .int x3] hM0) (some (.int (-1)), hs', 0, 0) := by
  refine ⟨hM0, ?_⟩
  refine mEnds.steps 4 (q' := (6, [some (.ref 1), some (.int x1), some (.int x2), some (.int x3), none, none], [.long 60, .long 1, .long x2.toInt64], hM0, 0, 0)) rfl ?_
  refine mEnds.call (d := 19) (y' := 111) (as := [.long x2.toInt64, .long 1, .long 60]) (q' := (9, [some (.ref 1), some (.int x1), some (.int x2), some (.int x3), none, none], [], hM0, 0, 0)) (v := some (.int 1)) (hs' := hM0) (c' := 0) (s' := 0) rfl rfl ?_ ?_
  · refine mEnds.steps 3 (q' := (3, [some (.long x2.toInt64), none, some (.long 1), none, some (.long 60), none], [.int (lg_cmp x2.toInt64 1)], hM0, 0, 0)) rfl ?_
    refine mEnds.brF (q' := (6, [some (.long x2.toInt64), none, some (.long 1), none, some (.long 60), none], [], hM0, 0, 0)) rfl (lgc_lt (c := 1) (by decide) f0) rfl ?_
    refine mEnds.steps 3 (q' := (10, [some (.long x2.toInt64), none, some (.long 1), none, some (.long 60), none], [.int (lg_cmp x2.toInt64 60)], hM0, 0, 0)) rfl ?_
    refine mEnds.brF (q' := (13, [some (.long x2.toInt64), none, some (.long 1), none, some (.long 60), none], [], hM0, 0, 0)) rfl (lgc_gt (c := 60) (by decide) f1) rfl ?_
    refine mEnds.steps 2 (q' := (18, [some (.long x2.toInt64), none, some (.long 1), none, some (.long 60), none], [.int 1], hM0, 0, 0)) rfl ?_
    exact mEnds.ret rfl
  show mEnds [] 20 176 (9, [some (.ref 1), some (.int x1), some (.int x2), some (.int x3), none, none], [.int 1], hM0, 0, 0) _
  refine mEnds.steps 5 (q' := (16, [some (.ref 1), some (.int x1), some (.int x2), some (.int x3), none, none], [.long 1, .long 0, .long x3.toInt64], hM0, 0, 0)) rfl ?_
  refine mEnds.call (d := 19) (y' := 111) (as := [.long x3.toInt64, .long 0, .long 1]) (q' := (19, [some (.ref 1), some (.int x1), some (.int x2), some (.int x3), none, none], [], hM0, 0, 0)) (v := some (.int 0)) (hs' := hM0) (c' := 0) (s' := 0) rfl rfl ?_ ?_
  · refine mEnds.steps 3 (q' := (3, [some (.long x3.toInt64), none, some (.long 0), none, some (.long 1), none], [.int (lg_cmp x3.toInt64 0)], hM0, 0, 0)) rfl ?_
    refine mEnds.brF (q' := (6, [some (.long x3.toInt64), none, some (.long 0), none, some (.long 1), none], [], hM0, 0, 0)) rfl (lgc_lt (c := 0) (by decide) f2) rfl ?_
    refine mEnds.steps 3 (q' := (10, [some (.long x3.toInt64), none, some (.long 0), none, some (.long 1), none], [.int (lg_cmp x3.toInt64 1)], hM0, 0, 0)) rfl ?_
    refine mEnds.brT (q' := (17, [some (.long x3.toInt64), none, some (.long 0), none, some (.long 1), none], [], hM0, 0, 0)) rfl (lgc_gt (c := 1) (by decide) f3) rfl ?_
    refine mEnds.steps 1 (q' := (18, [some (.long x3.toInt64), none, some (.long 0), none, some (.long 1), none], [.int 0], hM0, 0, 0)) rfl ?_
    exact mEnds.ret rfl
  show mEnds [] 20 176 (19, [some (.ref 1), some (.int x1), some (.int x2), some (.int x3), none, none], [.int 0], hM0, 0, 0) _
  refine mEnds.steps 2 (q' := (23, [some (.ref 1), some (.int x1), some (.int x2), some (.int x3), none, none], [.int (-1)], hM0, 0, 0)) rfl ?_
  exact mEnds.ret rfl
set_option maxRecDepth 100000 in
theorem c31_FFFF (x1 x2 x3 : Int32) (f0 : decide (x2 < 1) = false) (f1 : decide (60 < x2) = false) (f2 : decide (x3 < 0) = false) (f3 : decide (1 < x3) = false) : ∃ hs', mEnds [] 20 97 (mentry 97 [.ref 1, .int x1, .int x2, .int x3] hC0) (some (.int (-2)), hs', 0, 0) := by
  refine ⟨hC0, ?_⟩
  refine mEnds.steps 3 (q' := (4, [some (.ref 1), some (.int x1), some (.int x2), some (.int x3), none, none, none], [.int 60, .int 1, .int x2], hC0, 0, 0)) rfl ?_
  refine mEnds.call (d := 19) (y' := 105) (as := [.int x2, .int 1, .int 60]) (q' := (7, [some (.ref 1), some (.int x1), some (.int x2), some (.int x3), none, none, none], [], hC0, 0, 0)) (v := some (.int 1)) (hs' := hC0) (c' := 0) (s' := 0) rfl rfl ?_ ?_
  · refine mEnds.steps 2 (q' := (2, [some (.int x2), some (.int 1), some (.int 60)], [.int 1, .int x2], hC0, 0, 0)) rfl ?_
    refine mEnds.brF (q' := (5, [some (.int x2), some (.int 1), some (.int 60)], [], hC0, 0, 0)) rfl f0 rfl ?_
    refine mEnds.steps 2 (q' := (7, [some (.int x2), some (.int 1), some (.int 60)], [.int 60, .int x2], hC0, 0, 0)) rfl ?_
    refine mEnds.brF (q' := (10, [some (.int x2), some (.int 1), some (.int 60)], [], hC0, 0, 0)) rfl f1 rfl ?_
    refine mEnds.steps 2 (q' := (15, [some (.int x2), some (.int 1), some (.int 60)], [.int 1], hC0, 0, 0)) rfl ?_
    exact mEnds.ret rfl
  show mEnds [] 20 97 (7, [some (.ref 1), some (.int x1), some (.int x2), some (.int x3), none, none, none], [.int 1], hC0, 0, 0) _
  refine mEnds.steps 4 (q' := (13, [some (.ref 1), some (.int x1), some (.int x2), some (.int x3), none, none, none], [.int 1, .int 0, .int x3], hC0, 0, 0)) rfl ?_
  refine mEnds.call (d := 19) (y' := 105) (as := [.int x3, .int 0, .int 1]) (q' := (16, [some (.ref 1), some (.int x1), some (.int x2), some (.int x3), none, none, none], [], hC0, 0, 0)) (v := some (.int 1)) (hs' := hC0) (c' := 0) (s' := 0) rfl rfl ?_ ?_
  · refine mEnds.steps 2 (q' := (2, [some (.int x3), some (.int 0), some (.int 1)], [.int 0, .int x3], hC0, 0, 0)) rfl ?_
    refine mEnds.brF (q' := (5, [some (.int x3), some (.int 0), some (.int 1)], [], hC0, 0, 0)) rfl f2 rfl ?_
    refine mEnds.steps 2 (q' := (7, [some (.int x3), some (.int 0), some (.int 1)], [.int 1, .int x3], hC0, 0, 0)) rfl ?_
    refine mEnds.brF (q' := (10, [some (.int x3), some (.int 0), some (.int 1)], [], hC0, 0, 0)) rfl f3 rfl ?_
    refine mEnds.steps 2 (q' := (15, [some (.int x3), some (.int 0), some (.int 1)], [.int 1], hC0, 0, 0)) rfl ?_
    exact mEnds.ret rfl
  show mEnds [] 20 97 (16, [some (.ref 1), some (.int x1), some (.int x2), some (.int x3), none, none, none], [.int 1], hC0, 0, 0) _
  refine mEnds.steps 6 (q' := (33, [some (.ref 1), some (.int x1), some (.int x2), some (.int x3), none, none, none], [.int (-2)], hC0, 0, 0)) rfl ?_
  exact mEnds.ret rfl
set_option maxRecDepth 100000 in
theorem m31_FFFF (x1 x2 x3 : Int32) (f0 : decide (x2 < 1) = false) (f1 : decide (60 < x2) = false) (f2 : decide (x3 < 0) = false) (f3 : decide (1 < x3) = false) : ∃ hs', mEnds [] 20 176 (mentry 176 [.ref 1, .int x1, .int x2, .int x3] hM0) (some (.int (-2)), hs', 0, 0) := by
  refine ⟨hM0, ?_⟩
  refine mEnds.steps 4 (q' := (6, [some (.ref 1), some (.int x1), some (.int x2), some (.int x3), none, none], [.long 60, .long 1, .long x2.toInt64], hM0, 0, 0)) rfl ?_
  refine mEnds.call (d := 19) (y' := 111) (as := [.long x2.toInt64, .long 1, .long 60]) (q' := (9, [some (.ref 1), some (.int x1), some (.int x2), some (.int x3), none, none], [], hM0, 0, 0)) (v := some (.int 1)) (hs' := hM0) (c' := 0) (s' := 0) rfl rfl ?_ ?_
  · refine mEnds.steps 3 (q' := (3, [some (.long x2.toInt64), none, some (.long 1), none, some (.long 60), none], [.int (lg_cmp x2.toInt64 1)], hM0, 0, 0)) rfl ?_
    refine mEnds.brF (q' := (6, [some (.long x2.toInt64), none, some (.long 1), none, some (.long 60), none], [], hM0, 0, 0)) rfl (lgc_lt (c := 1) (by decide) f0) rfl ?_
    refine mEnds.steps 3 (q' := (10, [some (.long x2.toInt64), none, some (.long 1), none, some (.long 60), none], [.int (lg_cmp x2.toInt64 60)], hM0, 0, 0)) rfl ?_
    refine mEnds.brF (q' := (13, [some (.long x2.toInt64), none, some (.long 1), none, some (.long 60), none], [], hM0, 0, 0)) rfl (lgc_gt (c := 60) (by decide) f1) rfl ?_
    refine mEnds.steps 2 (q' := (18, [some (.long x2.toInt64), none, some (.long 1), none, some (.long 60), none], [.int 1], hM0, 0, 0)) rfl ?_
    exact mEnds.ret rfl
  show mEnds [] 20 176 (9, [some (.ref 1), some (.int x1), some (.int x2), some (.int x3), none, none], [.int 1], hM0, 0, 0) _
  refine mEnds.steps 5 (q' := (16, [some (.ref 1), some (.int x1), some (.int x2), some (.int x3), none, none], [.long 1, .long 0, .long x3.toInt64], hM0, 0, 0)) rfl ?_
  refine mEnds.call (d := 19) (y' := 111) (as := [.long x3.toInt64, .long 0, .long 1]) (q' := (19, [some (.ref 1), some (.int x1), some (.int x2), some (.int x3), none, none], [], hM0, 0, 0)) (v := some (.int 1)) (hs' := hM0) (c' := 0) (s' := 0) rfl rfl ?_ ?_
  · refine mEnds.steps 3 (q' := (3, [some (.long x3.toInt64), none, some (.long 0), none, some (.long 1), none], [.int (lg_cmp x3.toInt64 0)], hM0, 0, 0)) rfl ?_
    refine mEnds.brF (q' := (6, [some (.long x3.toInt64), none, some (.long 0), none, some (.long 1), none], [], hM0, 0, 0)) rfl (lgc_lt (c := 0) (by decide) f2) rfl ?_
    refine mEnds.steps 3 (q' := (10, [some (.long x3.toInt64), none, some (.long 0), none, some (.long 1), none], [.int (lg_cmp x3.toInt64 1)], hM0, 0, 0)) rfl ?_
    refine mEnds.brF (q' := (13, [some (.long x3.toInt64), none, some (.long 0), none, some (.long 1), none], [], hM0, 0, 0)) rfl (lgc_gt (c := 1) (by decide) f3) rfl ?_
    refine mEnds.steps 2 (q' := (18, [some (.long x3.toInt64), none, some (.long 0), none, some (.long 1), none], [.int 1], hM0, 0, 0)) rfl ?_
    exact mEnds.ret rfl
  show mEnds [] 20 176 (19, [some (.ref 1), some (.int x1), some (.int x2), some (.int x3), none, none], [.int 1], hM0, 0, 0) _
  refine mEnds.steps 5 (q' := (33, [some (.ref 1), some (.int x1), some (.int x2), some (.int x3), none, none], [.int (-2)], hM0, 0, 0)) rfl ?_
  exact mEnds.ret rfl
theorem ok_31 (x1 x2 x3 x4 x5 : Int32) : callOK_31 x1 x2 x3 x4 x5 := by
  cases f0 : decide (x2 < 1) with
  | true =>
    obtain ⟨h1, a1⟩ := c31_T x1 x2 x3 f0
    obtain ⟨h2, a2⟩ := m31_T x1 x2 x3 f0
    exact ⟨_, h1, h2, a1, a2⟩
  | false =>
    cases f1 : decide (60 < x2) with
    | true =>
      obtain ⟨h1, a1⟩ := c31_FT x1 x2 x3 f0 f1
      obtain ⟨h2, a2⟩ := m31_FT x1 x2 x3 f0 f1
      exact ⟨_, h1, h2, a1, a2⟩
    | false =>
      cases f2 : decide (x3 < 0) with
      | true =>
        obtain ⟨h1, a1⟩ := c31_FFT x1 x2 x3 f0 f1 f2
        obtain ⟨h2, a2⟩ := m31_FFT x1 x2 x3 f0 f1 f2
        exact ⟨_, h1, h2, a1, a2⟩
      | false =>
        cases f3 : decide (1 < x3) with
        | true =>
          obtain ⟨h1, a1⟩ := c31_FFFT x1 x2 x3 f0 f1 f2 f3
          obtain ⟨h2, a2⟩ := m31_FFFT x1 x2 x3 f0 f1 f2 f3
          exact ⟨_, h1, h2, a1, a2⟩
        | false =>
          obtain ⟨h1, a1⟩ := c31_FFFF x1 x2 x3 f0 f1 f2 f3
          obtain ⟨h2, a2⟩ := m31_FFFF x1 x2 x3 f0 f1 f2 f3
          exact ⟨_, h1, h2, a1, a2⟩
set_option maxRecDepth 100000 in
theorem c33_T (x1 : Int32) (f0 : decide (x1 < 0) = true) : ∃ hs', mEnds [] 20 99 (mentry 99 [.ref 1, .int x1] hC0) (some (.int (-1)), hs', 0, 0) := by
  refine ⟨hC0, ?_⟩
  refine mEnds.steps 3 (q' := (3, [some (.ref 1), some (.int x1)], [.int 1, .int 0, .int x1], hC0, 0, 0)) rfl ?_
  refine mEnds.call (d := 19) (y' := 105) (as := [.int x1, .int 0, .int 1]) (q' := (6, [some (.ref 1), some (.int x1)], [], hC0, 0, 0)) (v := some (.int 0)) (hs' := hC0) (c' := 0) (s' := 0) rfl rfl ?_ ?_
  · refine mEnds.steps 2 (q' := (2, [some (.int x1), some (.int 0), some (.int 1)], [.int 0, .int x1], hC0, 0, 0)) rfl ?_
    refine mEnds.brT (q' := (14, [some (.int x1), some (.int 0), some (.int 1)], [], hC0, 0, 0)) rfl f0 rfl ?_
    refine mEnds.steps 1 (q' := (15, [some (.int x1), some (.int 0), some (.int 1)], [.int 0], hC0, 0, 0)) rfl ?_
    exact mEnds.ret rfl
  show mEnds [] 20 99 (6, [some (.ref 1), some (.int x1)], [.int 0], hC0, 0, 0) _
  refine mEnds.steps 2 (q' := (10, [some (.ref 1), some (.int x1)], [.int (-1)], hC0, 0, 0)) rfl ?_
  exact mEnds.ret rfl
set_option maxRecDepth 100000 in
theorem m33_T (x1 : Int32) (f0 : decide (x1 < 0) = true) : ∃ hs', mEnds [] 20 178 (mentry 178 [.ref 1, .int x1] hM0) (some (.int (-1)), hs', 0, 0) := by
  refine ⟨hM0, ?_⟩
  refine mEnds.steps 4 (q' := (4, [some (.ref 1), some (.int x1)], [.long 1, .long 0, .long x1.toInt64], hM0, 0, 0)) rfl ?_
  refine mEnds.call (d := 19) (y' := 111) (as := [.long x1.toInt64, .long 0, .long 1]) (q' := (7, [some (.ref 1), some (.int x1)], [], hM0, 0, 0)) (v := some (.int 0)) (hs' := hM0) (c' := 0) (s' := 0) rfl rfl ?_ ?_
  · refine mEnds.steps 3 (q' := (3, [some (.long x1.toInt64), none, some (.long 0), none, some (.long 1), none], [.int (lg_cmp x1.toInt64 0)], hM0, 0, 0)) rfl ?_
    refine mEnds.brT (q' := (17, [some (.long x1.toInt64), none, some (.long 0), none, some (.long 1), none], [], hM0, 0, 0)) rfl (lgc_lt (c := 0) (by decide) f0) rfl ?_
    refine mEnds.steps 1 (q' := (18, [some (.long x1.toInt64), none, some (.long 0), none, some (.long 1), none], [.int 0], hM0, 0, 0)) rfl ?_
    exact mEnds.ret rfl
  show mEnds [] 20 178 (7, [some (.ref 1), some (.int x1)], [.int 0], hM0, 0, 0) _
  refine mEnds.steps 2 (q' := (11, [some (.ref 1), some (.int x1)], [.int (-1)], hM0, 0, 0)) rfl ?_
  exact mEnds.ret rfl
set_option maxRecDepth 100000 in
theorem c33_FT (x1 : Int32) (f0 : decide (x1 < 0) = false) (f1 : decide (1 < x1) = true) : ∃ hs', mEnds [] 20 99 (mentry 99 [.ref 1, .int x1] hC0) (some (.int (-1)), hs', 0, 0) := by
  refine ⟨hC0, ?_⟩
  refine mEnds.steps 3 (q' := (3, [some (.ref 1), some (.int x1)], [.int 1, .int 0, .int x1], hC0, 0, 0)) rfl ?_
  refine mEnds.call (d := 19) (y' := 105) (as := [.int x1, .int 0, .int 1]) (q' := (6, [some (.ref 1), some (.int x1)], [], hC0, 0, 0)) (v := some (.int 0)) (hs' := hC0) (c' := 0) (s' := 0) rfl rfl ?_ ?_
  · refine mEnds.steps 2 (q' := (2, [some (.int x1), some (.int 0), some (.int 1)], [.int 0, .int x1], hC0, 0, 0)) rfl ?_
    refine mEnds.brF (q' := (5, [some (.int x1), some (.int 0), some (.int 1)], [], hC0, 0, 0)) rfl f0 rfl ?_
    refine mEnds.steps 2 (q' := (7, [some (.int x1), some (.int 0), some (.int 1)], [.int 1, .int x1], hC0, 0, 0)) rfl ?_
    refine mEnds.brT (q' := (14, [some (.int x1), some (.int 0), some (.int 1)], [], hC0, 0, 0)) rfl f1 rfl ?_
    refine mEnds.steps 1 (q' := (15, [some (.int x1), some (.int 0), some (.int 1)], [.int 0], hC0, 0, 0)) rfl ?_
    exact mEnds.ret rfl
  show mEnds [] 20 99 (6, [some (.ref 1), some (.int x1)], [.int 0], hC0, 0, 0) _
  refine mEnds.steps 2 (q' := (10, [some (.ref 1), some (.int x1)], [.int (-1)], hC0, 0, 0)) rfl ?_
  exact mEnds.ret rfl
set_option maxRecDepth 100000 in
theorem m33_FT (x1 : Int32) (f0 : decide (x1 < 0) = false) (f1 : decide (1 < x1) = true) : ∃ hs', mEnds [] 20 178 (mentry 178 [.ref 1, .int x1] hM0) (some (.int (-1)), hs', 0, 0) := by
  refine ⟨hM0, ?_⟩
  refine mEnds.steps 4 (q' := (4, [some (.ref 1), some (.int x1)], [.long 1, .long 0, .long x1.toInt64], hM0, 0, 0)) rfl ?_
  refine mEnds.call (d := 19) (y' := 111) (as := [.long x1.toInt64, .long 0, .long 1]) (q' := (7, [some (.ref 1), some (.int x1)], [], hM0, 0, 0)) (v := some (.int 0)) (hs' := hM0) (c' := 0) (s' := 0) rfl rfl ?_ ?_
  · refine mEnds.steps 3 (q' := (3, [some (.long x1.toInt64), none, some (.long 0), none, some (.long 1), none], [.int (lg_cmp x1.toInt64 0)], hM0, 0, 0)) rfl ?_
    refine mEnds.brF (q' := (6, [some (.long x1.toInt64), none, some (.long 0), none, some (.long 1), none], [], hM0, 0, 0)) rfl (lgc_lt (c := 0) (by decide) f0) rfl ?_
    refine mEnds.steps 3 (q' := (10, [some (.long x1.toInt64), none, some (.long 0), none, some (.long 1), none], [.int (lg_cmp x1.toInt64 1)], hM0, 0, 0)) rfl ?_
    refine mEnds.brT (q' := (17, [some (.long x1.toInt64), none, some (.long 0), none, some (.long 1), none], [], hM0, 0, 0)) rfl (lgc_gt (c := 1) (by decide) f1) rfl ?_
    refine mEnds.steps 1 (q' := (18, [some (.long x1.toInt64), none, some (.long 0), none, some (.long 1), none], [.int 0], hM0, 0, 0)) rfl ?_
    exact mEnds.ret rfl
  show mEnds [] 20 178 (7, [some (.ref 1), some (.int x1)], [.int 0], hM0, 0, 0) _
  refine mEnds.steps 2 (q' := (11, [some (.ref 1), some (.int x1)], [.int (-1)], hM0, 0, 0)) rfl ?_
  exact mEnds.ret rfl
set_option maxRecDepth 100000 in
theorem c33_FFv0   : ∃ hs', mEnds [] 20 99 (mentry 99 [.ref 1, .int 0] hC0) (some (.int (-2)), hs', 0, 0) := by
  refine ⟨hC0, ?_⟩
  refine mEnds.steps 3 (q' := (3, [some (.ref 1), some (.int 0)], [.int 1, .int 0, .int 0], hC0, 0, 0)) rfl ?_
  refine mEnds.call (d := 19) (y' := 105) (as := [.int 0, .int 0, .int 1]) (q' := (6, [some (.ref 1), some (.int 0)], [], hC0, 0, 0)) (v := some (.int 1)) (hs' := hC0) (c' := 0) (s' := 0) rfl rfl ?_ ?_
  · refine mEnds.steps 8 (q' := (15, [some (.int 0), some (.int 0), some (.int 1)], [.int 1], hC0, 0, 0)) rfl ?_
    exact mEnds.ret rfl
  show mEnds [] 20 99 (6, [some (.ref 1), some (.int 0)], [.int 1], hC0, 0, 0) _
  refine mEnds.steps 7 (q' := (22, [some (.ref 1), some (.int 0)], [.int (-2)], hC0, 0, 0)) rfl ?_
  exact mEnds.ret rfl
set_option maxRecDepth 100000 in
theorem m33_FFv0   : ∃ hs', mEnds [] 20 178 (mentry 178 [.ref 1, .int 0] hM0) (some (.int (-2)), hs', 0, 0) := by
  refine ⟨hM0, ?_⟩
  refine mEnds.steps 4 (q' := (4, [some (.ref 1), some (.int 0)], [.long 1, .long 0, .long 0], hM0, 0, 0)) rfl ?_
  refine mEnds.call (d := 19) (y' := 111) (as := [.long 0, .long 0, .long 1]) (q' := (7, [some (.ref 1), some (.int 0)], [], hM0, 0, 0)) (v := some (.int 1)) (hs' := hM0) (c' := 0) (s' := 0) rfl rfl ?_ ?_
  · refine mEnds.steps 10 (q' := (18, [some (.long 0), none, some (.long 0), none, some (.long 1), none], [.int 1], hM0, 0, 0)) rfl ?_
    exact mEnds.ret rfl
  show mEnds [] 20 178 (7, [some (.ref 1), some (.int 0)], [.int 1], hM0, 0, 0) _
  refine mEnds.steps 7 (q' := (23, [some (.ref 1), some (.int 0)], [.int (-2)], hM0, 0, 0)) rfl ?_
  exact mEnds.ret rfl
set_option maxRecDepth 100000 in
theorem c33_FFv1   : ∃ hs', mEnds [] 20 99 (mentry 99 [.ref 1, .int 1] hC0) (some (.int (-2)), hs', 0, 0) := by
  refine ⟨hC0, ?_⟩
  refine mEnds.steps 3 (q' := (3, [some (.ref 1), some (.int 1)], [.int 1, .int 0, .int 1], hC0, 0, 0)) rfl ?_
  refine mEnds.call (d := 19) (y' := 105) (as := [.int 1, .int 0, .int 1]) (q' := (6, [some (.ref 1), some (.int 1)], [], hC0, 0, 0)) (v := some (.int 1)) (hs' := hC0) (c' := 0) (s' := 0) rfl rfl ?_ ?_
  · refine mEnds.steps 8 (q' := (15, [some (.int 1), some (.int 0), some (.int 1)], [.int 1], hC0, 0, 0)) rfl ?_
    exact mEnds.ret rfl
  show mEnds [] 20 99 (6, [some (.ref 1), some (.int 1)], [.int 1], hC0, 0, 0) _
  refine mEnds.steps 7 (q' := (22, [some (.ref 1), some (.int 1)], [.int (-2)], hC0, 0, 0)) rfl ?_
  exact mEnds.ret rfl
set_option maxRecDepth 100000 in
theorem m33_FFv1   : ∃ hs', mEnds [] 20 178 (mentry 178 [.ref 1, .int 1] hM0) (some (.int (-2)), hs', 0, 0) := by
  refine ⟨hM0, ?_⟩
  refine mEnds.steps 4 (q' := (4, [some (.ref 1), some (.int 1)], [.long 1, .long 0, .long 1], hM0, 0, 0)) rfl ?_
  refine mEnds.call (d := 19) (y' := 111) (as := [.long 1, .long 0, .long 1]) (q' := (7, [some (.ref 1), some (.int 1)], [], hM0, 0, 0)) (v := some (.int 1)) (hs' := hM0) (c' := 0) (s' := 0) rfl rfl ?_ ?_
  · refine mEnds.steps 10 (q' := (18, [some (.long 1), none, some (.long 0), none, some (.long 1), none], [.int 1], hM0, 0, 0)) rfl ?_
    exact mEnds.ret rfl
  show mEnds [] 20 178 (7, [some (.ref 1), some (.int 1)], [.int 1], hM0, 0, 0) _
  refine mEnds.steps 7 (q' := (23, [some (.ref 1), some (.int 1)], [.int (-2)], hM0, 0, 0)) rfl ?_
  exact mEnds.ret rfl
theorem ok_33 (x1 x2 x3 x4 x5 : Int32) : callOK_33 x1 x2 x3 x4 x5 := by
  cases f0 : decide (x1 < 0) with
  | true =>
    obtain ⟨h1, a1⟩ := c33_T x1 f0
    obtain ⟨h2, a2⟩ := m33_T x1 f0
    exact ⟨_, h1, h2, a1, a2⟩
  | false =>
    cases f1 : decide (1 < x1) with
    | true =>
      obtain ⟨h1, a1⟩ := c33_FT x1 f0 f1
      obtain ⟨h2, a2⟩ := m33_FT x1 f0 f1
      exact ⟨_, h1, h2, a1, a2⟩
    | false =>
      obtain ⟨k2, hk2, ek2⟩ := i32_rng (n := 2) f0 f1 (by decide)
      clear f0 f1
      match k2, hk2, ek2 with
      | 0, _, e =>
        obtain rfl := i32_at (c := 0) e (by decide)
        obtain ⟨h1, a1⟩ := c33_FFv0 
        obtain ⟨h2, a2⟩ := m33_FFv0 
        exact ⟨_, h1, h2, a1, a2⟩
      | 1, _, e =>
        obtain rfl := i32_at (c := 1) e (by decide)
        obtain ⟨h1, a1⟩ := c33_FFv1 
        obtain ⟨h2, a2⟩ := m33_FFv1 
        exact ⟨_, h1, h2, a1, a2⟩
      | k + 2, h, _ => exact absurd h (by omega)
set_option maxRecDepth 100000 in
theorem c35_T (x1 x2 x3 : Int32) (f0 : decide (x1 < 0) = true) : ∃ hs', mEnds [] 20 101 (mentry 101 [.ref 1, .int x1, .int x2, .int x3] hC0) (some (.int (-1)), hs', 0, 0) := by
  refine ⟨hC0, ?_⟩
  refine mEnds.steps 3 (q' := (3, [some (.ref 1), some (.int x1), some (.int x2), some (.int x3), none, none], [.int 3, .int 0, .int x1], hC0, 0, 0)) rfl ?_
  refine mEnds.call (d := 19) (y' := 105) (as := [.int x1, .int 0, .int 3]) (q' := (6, [some (.ref 1), some (.int x1), some (.int x2), some (.int x3), none, none], [], hC0, 0, 0)) (v := some (.int 0)) (hs' := hC0) (c' := 0) (s' := 0) rfl rfl ?_ ?_
  · refine mEnds.steps 2 (q' := (2, [some (.int x1), some (.int 0), some (.int 3)], [.int 0, .int x1], hC0, 0, 0)) rfl ?_
    refine mEnds.brT (q' := (14, [some (.int x1), some (.int 0), some (.int 3)], [], hC0, 0, 0)) rfl f0 rfl ?_
    refine mEnds.steps 1 (q' := (15, [some (.int x1), some (.int 0), some (.int 3)], [.int 0], hC0, 0, 0)) rfl ?_
    exact mEnds.ret rfl
  show mEnds [] 20 101 (6, [some (.ref 1), some (.int x1), some (.int x2), some (.int x3), none, none], [.int 0], hC0, 0, 0) _
  refine mEnds.steps 2 (q' := (10, [some (.ref 1), some (.int x1), some (.int x2), some (.int x3), none, none], [.int (-1)], hC0, 0, 0)) rfl ?_
  exact mEnds.ret rfl
set_option maxRecDepth 100000 in
theorem m35_T (x1 x2 x3 : Int32) (f0 : decide (x1 < 0) = true) : ∃ hs', mEnds [] 20 180 (mentry 180 [.ref 1, .int x1, .int x2, .int x3] hM0) (some (.int (-1)), hs', 0, 0) := by
  refine ⟨hM0, ?_⟩
  refine mEnds.steps 4 (q' := (6, [some (.ref 1), some (.int x1), some (.int x2), some (.int x3)], [.long 3, .long 0, .long x1.toInt64], hM0, 0, 0)) rfl ?_
  refine mEnds.call (d := 19) (y' := 111) (as := [.long x1.toInt64, .long 0, .long 3]) (q' := (9, [some (.ref 1), some (.int x1), some (.int x2), some (.int x3)], [], hM0, 0, 0)) (v := some (.int 0)) (hs' := hM0) (c' := 0) (s' := 0) rfl rfl ?_ ?_
  · refine mEnds.steps 3 (q' := (3, [some (.long x1.toInt64), none, some (.long 0), none, some (.long 3), none], [.int (lg_cmp x1.toInt64 0)], hM0, 0, 0)) rfl ?_
    refine mEnds.brT (q' := (17, [some (.long x1.toInt64), none, some (.long 0), none, some (.long 3), none], [], hM0, 0, 0)) rfl (lgc_lt (c := 0) (by decide) f0) rfl ?_
    refine mEnds.steps 1 (q' := (18, [some (.long x1.toInt64), none, some (.long 0), none, some (.long 3), none], [.int 0], hM0, 0, 0)) rfl ?_
    exact mEnds.ret rfl
  show mEnds [] 20 180 (9, [some (.ref 1), some (.int x1), some (.int x2), some (.int x3)], [.int 0], hM0, 0, 0) _
  refine mEnds.steps 2 (q' := (13, [some (.ref 1), some (.int x1), some (.int x2), some (.int x3)], [.int (-1)], hM0, 0, 0)) rfl ?_
  exact mEnds.ret rfl
set_option maxRecDepth 100000 in
theorem c35_FT (x1 x2 x3 : Int32) (f0 : decide (x1 < 0) = false) (f1 : decide (3 < x1) = true) : ∃ hs', mEnds [] 20 101 (mentry 101 [.ref 1, .int x1, .int x2, .int x3] hC0) (some (.int (-1)), hs', 0, 0) := by
  refine ⟨hC0, ?_⟩
  refine mEnds.steps 3 (q' := (3, [some (.ref 1), some (.int x1), some (.int x2), some (.int x3), none, none], [.int 3, .int 0, .int x1], hC0, 0, 0)) rfl ?_
  refine mEnds.call (d := 19) (y' := 105) (as := [.int x1, .int 0, .int 3]) (q' := (6, [some (.ref 1), some (.int x1), some (.int x2), some (.int x3), none, none], [], hC0, 0, 0)) (v := some (.int 0)) (hs' := hC0) (c' := 0) (s' := 0) rfl rfl ?_ ?_
  · refine mEnds.steps 2 (q' := (2, [some (.int x1), some (.int 0), some (.int 3)], [.int 0, .int x1], hC0, 0, 0)) rfl ?_
    refine mEnds.brF (q' := (5, [some (.int x1), some (.int 0), some (.int 3)], [], hC0, 0, 0)) rfl f0 rfl ?_
    refine mEnds.steps 2 (q' := (7, [some (.int x1), some (.int 0), some (.int 3)], [.int 3, .int x1], hC0, 0, 0)) rfl ?_
    refine mEnds.brT (q' := (14, [some (.int x1), some (.int 0), some (.int 3)], [], hC0, 0, 0)) rfl f1 rfl ?_
    refine mEnds.steps 1 (q' := (15, [some (.int x1), some (.int 0), some (.int 3)], [.int 0], hC0, 0, 0)) rfl ?_
    exact mEnds.ret rfl
  show mEnds [] 20 101 (6, [some (.ref 1), some (.int x1), some (.int x2), some (.int x3), none, none], [.int 0], hC0, 0, 0) _
  refine mEnds.steps 2 (q' := (10, [some (.ref 1), some (.int x1), some (.int x2), some (.int x3), none, none], [.int (-1)], hC0, 0, 0)) rfl ?_
  exact mEnds.ret rfl
set_option maxRecDepth 100000 in
theorem m35_FT (x1 x2 x3 : Int32) (f0 : decide (x1 < 0) = false) (f1 : decide (3 < x1) = true) : ∃ hs', mEnds [] 20 180 (mentry 180 [.ref 1, .int x1, .int x2, .int x3] hM0) (some (.int (-1)), hs', 0, 0) := by
  refine ⟨hM0, ?_⟩
  refine mEnds.steps 4 (q' := (6, [some (.ref 1), some (.int x1), some (.int x2), some (.int x3)], [.long 3, .long 0, .long x1.toInt64], hM0, 0, 0)) rfl ?_
  refine mEnds.call (d := 19) (y' := 111) (as := [.long x1.toInt64, .long 0, .long 3]) (q' := (9, [some (.ref 1), some (.int x1), some (.int x2), some (.int x3)], [], hM0, 0, 0)) (v := some (.int 0)) (hs' := hM0) (c' := 0) (s' := 0) rfl rfl ?_ ?_
  · refine mEnds.steps 3 (q' := (3, [some (.long x1.toInt64), none, some (.long 0), none, some (.long 3), none], [.int (lg_cmp x1.toInt64 0)], hM0, 0, 0)) rfl ?_
    refine mEnds.brF (q' := (6, [some (.long x1.toInt64), none, some (.long 0), none, some (.long 3), none], [], hM0, 0, 0)) rfl (lgc_lt (c := 0) (by decide) f0) rfl ?_
    refine mEnds.steps 3 (q' := (10, [some (.long x1.toInt64), none, some (.long 0), none, some (.long 3), none], [.int (lg_cmp x1.toInt64 3)], hM0, 0, 0)) rfl ?_
    refine mEnds.brT (q' := (17, [some (.long x1.toInt64), none, some (.long 0), none, some (.long 3), none], [], hM0, 0, 0)) rfl (lgc_gt (c := 3) (by decide) f1) rfl ?_
    refine mEnds.steps 1 (q' := (18, [some (.long x1.toInt64), none, some (.long 0), none, some (.long 3), none], [.int 0], hM0, 0, 0)) rfl ?_
    exact mEnds.ret rfl
  show mEnds [] 20 180 (9, [some (.ref 1), some (.int x1), some (.int x2), some (.int x3)], [.int 0], hM0, 0, 0) _
  refine mEnds.steps 2 (q' := (13, [some (.ref 1), some (.int x1), some (.int x2), some (.int x3)], [.int (-1)], hM0, 0, 0)) rfl ?_
  exact mEnds.ret rfl
set_option maxRecDepth 100000 in
theorem c35_FFv0 (x2 x3 : Int32)  : ∃ hs', mEnds [] 20 101 (mentry 101 [.ref 1, .int 0, .int x2, .int x3] hC0) (some (.int (-11)), hs', 0, 0) := by
  refine ⟨hC0, ?_⟩
  refine mEnds.steps 3 (q' := (3, [some (.ref 1), some (.int 0), some (.int x2), some (.int x3), none, none], [.int 3, .int 0, .int 0], hC0, 0, 0)) rfl ?_
  refine mEnds.call (d := 19) (y' := 105) (as := [.int 0, .int 0, .int 3]) (q' := (6, [some (.ref 1), some (.int 0), some (.int x2), some (.int x3), none, none], [], hC0, 0, 0)) (v := some (.int 1)) (hs' := hC0) (c' := 0) (s' := 0) rfl rfl ?_ ?_
  · refine mEnds.steps 8 (q' := (15, [some (.int 0), some (.int 0), some (.int 3)], [.int 1], hC0, 0, 0)) rfl ?_
    exact mEnds.ret rfl
  show mEnds [] 20 101 (6, [some (.ref 1), some (.int 0), some (.int x2), some (.int x3), none, none], [.int 1], hC0, 0, 0) _
  refine mEnds.steps 10 (q' := (27, [some (.ref 1), some (.int 0), some (.int x2), some (.int x3), some (.ref 124), none], [.int x2, .int (-1), .ref 124], hC0, 0, 0)) rfl ?_
  refine mEnds.call (d := 19) (y' := 33) (as := [.ref 124, .int (-1), .int x2]) (q' := (30, [some (.ref 1), some (.int 0), some (.int x2), some (.int x3), some (.ref 124), none], [], hC0, 0, 0)) (v := some (.int 1)) (hs' := hC0) (c' := 0) (s' := 0) rfl rfl ?_ ?_
  · refine mEnds.steps 1 (q' := (1, [some (.ref 124), some (.int (-1)), some (.int x2)], [.ref 124], hC0, 0, 0)) rfl ?_
    refine mEnds.call (d := 18) (y' := 30) (as := [.ref 124]) (q' := (4, [some (.ref 124), some (.int (-1)), some (.int x2)], [], hC0, 0, 0)) (v := some (.int 0)) (hs' := hC0) (c' := 0) (s' := 0) rfl rfl ?_ ?_
    · refine mEnds.steps 5 (q' := (13, [some (.ref 124)], [.int 0], hC0, 0, 0)) rfl ?_
      exact mEnds.ret rfl
    show mEnds [] 19 33 (4, [some (.ref 124), some (.int (-1)), some (.int x2)], [.int 0], hC0, 0, 0) _
    refine mEnds.steps 2 (q' := (8, [some (.ref 124), some (.int (-1)), some (.int x2)], [.int 1], hC0, 0, 0)) rfl ?_
    exact mEnds.ret rfl
  show mEnds [] 20 101 (30, [some (.ref 1), some (.int 0), some (.int x2), some (.int x3), some (.ref 124), none], [.int 1], hC0, 0, 0) _
  refine mEnds.steps 6 (q' := (42, [some (.ref 1), some (.int 0), some (.int x2), some (.int x3), some (.ref 124), some (.int 1)], [.int (-11)], hC0, 0, 0)) rfl ?_
  exact mEnds.ret rfl
set_option maxRecDepth 100000 in
theorem m35_FFv0 (x2 x3 : Int32)  : ∃ hs', mEnds [] 20 180 (mentry 180 [.ref 1, .int 0, .int x2, .int x3] hM0) (some (.int (-11)), hs', 0, 0) := by
  refine ⟨hM0, ?_⟩
  refine mEnds.steps 4 (q' := (6, [some (.ref 1), some (.int 0), some (.int x2), some (.int x3)], [.long 3, .long 0, .long 0], hM0, 0, 0)) rfl ?_
  refine mEnds.call (d := 19) (y' := 111) (as := [.long 0, .long 0, .long 3]) (q' := (9, [some (.ref 1), some (.int 0), some (.int x2), some (.int x3)], [], hM0, 0, 0)) (v := some (.int 1)) (hs' := hM0) (c' := 0) (s' := 0) rfl rfl ?_ ?_
  · refine mEnds.steps 10 (q' := (18, [some (.long 0), none, some (.long 0), none, some (.long 3), none], [.int 1], hM0, 0, 0)) rfl ?_
    exact mEnds.ret rfl
  show mEnds [] 20 180 (9, [some (.ref 1), some (.int 0), some (.int x2), some (.int x3)], [.int 1], hM0, 0, 0) _
  refine mEnds.steps 8 (q' := (27, [some (.ref 1), some (.int 0), some (.int x2), some (.int x3)], [.int (-11)], hM0, 0, 0)) rfl ?_
  exact mEnds.ret rfl
set_option maxRecDepth 100000 in
theorem c35_FFv1 (x2 x3 : Int32)  : ∃ hs', mEnds [] 20 101 (mentry 101 [.ref 1, .int 1, .int x2, .int x3] hC0) (some (.int (-11)), hs', 0, 0) := by
  refine ⟨hC0, ?_⟩
  refine mEnds.steps 3 (q' := (3, [some (.ref 1), some (.int 1), some (.int x2), some (.int x3), none, none], [.int 3, .int 0, .int 1], hC0, 0, 0)) rfl ?_
  refine mEnds.call (d := 19) (y' := 105) (as := [.int 1, .int 0, .int 3]) (q' := (6, [some (.ref 1), some (.int 1), some (.int x2), some (.int x3), none, none], [], hC0, 0, 0)) (v := some (.int 1)) (hs' := hC0) (c' := 0) (s' := 0) rfl rfl ?_ ?_
  · refine mEnds.steps 8 (q' := (15, [some (.int 1), some (.int 0), some (.int 3)], [.int 1], hC0, 0, 0)) rfl ?_
    exact mEnds.ret rfl
  show mEnds [] 20 101 (6, [some (.ref 1), some (.int 1), some (.int x2), some (.int x3), none, none], [.int 1], hC0, 0, 0) _
  refine mEnds.steps 10 (q' := (27, [some (.ref 1), some (.int 1), some (.int x2), some (.int x3), some (.ref 126), none], [.int x2, .int (-1), .ref 126], hC0, 0, 0)) rfl ?_
  refine mEnds.call (d := 19) (y' := 33) (as := [.ref 126, .int (-1), .int x2]) (q' := (30, [some (.ref 1), some (.int 1), some (.int x2), some (.int x3), some (.ref 126), none], [], hC0, 0, 0)) (v := some (.int 1)) (hs' := hC0) (c' := 0) (s' := 0) rfl rfl ?_ ?_
  · refine mEnds.steps 1 (q' := (1, [some (.ref 126), some (.int (-1)), some (.int x2)], [.ref 126], hC0, 0, 0)) rfl ?_
    refine mEnds.call (d := 18) (y' := 30) (as := [.ref 126]) (q' := (4, [some (.ref 126), some (.int (-1)), some (.int x2)], [], hC0, 0, 0)) (v := some (.int 0)) (hs' := hC0) (c' := 0) (s' := 0) rfl rfl ?_ ?_
    · refine mEnds.steps 5 (q' := (13, [some (.ref 126)], [.int 0], hC0, 0, 0)) rfl ?_
      exact mEnds.ret rfl
    show mEnds [] 19 33 (4, [some (.ref 126), some (.int (-1)), some (.int x2)], [.int 0], hC0, 0, 0) _
    refine mEnds.steps 2 (q' := (8, [some (.ref 126), some (.int (-1)), some (.int x2)], [.int 1], hC0, 0, 0)) rfl ?_
    exact mEnds.ret rfl
  show mEnds [] 20 101 (30, [some (.ref 1), some (.int 1), some (.int x2), some (.int x3), some (.ref 126), none], [.int 1], hC0, 0, 0) _
  refine mEnds.steps 6 (q' := (42, [some (.ref 1), some (.int 1), some (.int x2), some (.int x3), some (.ref 126), some (.int 1)], [.int (-11)], hC0, 0, 0)) rfl ?_
  exact mEnds.ret rfl
set_option maxRecDepth 100000 in
theorem m35_FFv1 (x2 x3 : Int32)  : ∃ hs', mEnds [] 20 180 (mentry 180 [.ref 1, .int 1, .int x2, .int x3] hM0) (some (.int (-11)), hs', 0, 0) := by
  refine ⟨hM0, ?_⟩
  refine mEnds.steps 4 (q' := (6, [some (.ref 1), some (.int 1), some (.int x2), some (.int x3)], [.long 3, .long 0, .long 1], hM0, 0, 0)) rfl ?_
  refine mEnds.call (d := 19) (y' := 111) (as := [.long 1, .long 0, .long 3]) (q' := (9, [some (.ref 1), some (.int 1), some (.int x2), some (.int x3)], [], hM0, 0, 0)) (v := some (.int 1)) (hs' := hM0) (c' := 0) (s' := 0) rfl rfl ?_ ?_
  · refine mEnds.steps 10 (q' := (18, [some (.long 1), none, some (.long 0), none, some (.long 3), none], [.int 1], hM0, 0, 0)) rfl ?_
    exact mEnds.ret rfl
  show mEnds [] 20 180 (9, [some (.ref 1), some (.int 1), some (.int x2), some (.int x3)], [.int 1], hM0, 0, 0) _
  refine mEnds.steps 8 (q' := (27, [some (.ref 1), some (.int 1), some (.int x2), some (.int x3)], [.int (-11)], hM0, 0, 0)) rfl ?_
  exact mEnds.ret rfl
set_option maxRecDepth 100000 in
theorem c35_FFv2 (x2 x3 : Int32)  : ∃ hs', mEnds [] 20 101 (mentry 101 [.ref 1, .int 2, .int x2, .int x3] hC0) (some (.int (-11)), hs', 0, 0) := by
  refine ⟨hC0, ?_⟩
  refine mEnds.steps 3 (q' := (3, [some (.ref 1), some (.int 2), some (.int x2), some (.int x3), none, none], [.int 3, .int 0, .int 2], hC0, 0, 0)) rfl ?_
  refine mEnds.call (d := 19) (y' := 105) (as := [.int 2, .int 0, .int 3]) (q' := (6, [some (.ref 1), some (.int 2), some (.int x2), some (.int x3), none, none], [], hC0, 0, 0)) (v := some (.int 1)) (hs' := hC0) (c' := 0) (s' := 0) rfl rfl ?_ ?_
  · refine mEnds.steps 8 (q' := (15, [some (.int 2), some (.int 0), some (.int 3)], [.int 1], hC0, 0, 0)) rfl ?_
    exact mEnds.ret rfl
  show mEnds [] 20 101 (6, [some (.ref 1), some (.int 2), some (.int x2), some (.int x3), none, none], [.int 1], hC0, 0, 0) _
  refine mEnds.steps 10 (q' := (27, [some (.ref 1), some (.int 2), some (.int x2), some (.int x3), some (.ref 128), none], [.int x2, .int (-1), .ref 128], hC0, 0, 0)) rfl ?_
  refine mEnds.call (d := 19) (y' := 33) (as := [.ref 128, .int (-1), .int x2]) (q' := (30, [some (.ref 1), some (.int 2), some (.int x2), some (.int x3), some (.ref 128), none], [], hC0, 0, 0)) (v := some (.int 1)) (hs' := hC0) (c' := 0) (s' := 0) rfl rfl ?_ ?_
  · refine mEnds.steps 1 (q' := (1, [some (.ref 128), some (.int (-1)), some (.int x2)], [.ref 128], hC0, 0, 0)) rfl ?_
    refine mEnds.call (d := 18) (y' := 30) (as := [.ref 128]) (q' := (4, [some (.ref 128), some (.int (-1)), some (.int x2)], [], hC0, 0, 0)) (v := some (.int 0)) (hs' := hC0) (c' := 0) (s' := 0) rfl rfl ?_ ?_
    · refine mEnds.steps 5 (q' := (13, [some (.ref 128)], [.int 0], hC0, 0, 0)) rfl ?_
      exact mEnds.ret rfl
    show mEnds [] 19 33 (4, [some (.ref 128), some (.int (-1)), some (.int x2)], [.int 0], hC0, 0, 0) _
    refine mEnds.steps 2 (q' := (8, [some (.ref 128), some (.int (-1)), some (.int x2)], [.int 1], hC0, 0, 0)) rfl ?_
    exact mEnds.ret rfl
  show mEnds [] 20 101 (30, [some (.ref 1), some (.int 2), some (.int x2), some (.int x3), some (.ref 128), none], [.int 1], hC0, 0, 0) _
  refine mEnds.steps 6 (q' := (42, [some (.ref 1), some (.int 2), some (.int x2), some (.int x3), some (.ref 128), some (.int 1)], [.int (-11)], hC0, 0, 0)) rfl ?_
  exact mEnds.ret rfl
set_option maxRecDepth 100000 in
theorem m35_FFv2 (x2 x3 : Int32)  : ∃ hs', mEnds [] 20 180 (mentry 180 [.ref 1, .int 2, .int x2, .int x3] hM0) (some (.int (-11)), hs', 0, 0) := by
  refine ⟨hM0, ?_⟩
  refine mEnds.steps 4 (q' := (6, [some (.ref 1), some (.int 2), some (.int x2), some (.int x3)], [.long 3, .long 0, .long 2], hM0, 0, 0)) rfl ?_
  refine mEnds.call (d := 19) (y' := 111) (as := [.long 2, .long 0, .long 3]) (q' := (9, [some (.ref 1), some (.int 2), some (.int x2), some (.int x3)], [], hM0, 0, 0)) (v := some (.int 1)) (hs' := hM0) (c' := 0) (s' := 0) rfl rfl ?_ ?_
  · refine mEnds.steps 10 (q' := (18, [some (.long 2), none, some (.long 0), none, some (.long 3), none], [.int 1], hM0, 0, 0)) rfl ?_
    exact mEnds.ret rfl
  show mEnds [] 20 180 (9, [some (.ref 1), some (.int 2), some (.int x2), some (.int x3)], [.int 1], hM0, 0, 0) _
  refine mEnds.steps 8 (q' := (27, [some (.ref 1), some (.int 2), some (.int x2), some (.int x3)], [.int (-11)], hM0, 0, 0)) rfl ?_
  exact mEnds.ret rfl
set_option maxRecDepth 100000 in
theorem c35_FFv3 (x2 x3 : Int32)  : ∃ hs', mEnds [] 20 101 (mentry 101 [.ref 1, .int 3, .int x2, .int x3] hC0) (some (.int (-11)), hs', 0, 0) := by
  refine ⟨hC0, ?_⟩
  refine mEnds.steps 3 (q' := (3, [some (.ref 1), some (.int 3), some (.int x2), some (.int x3), none, none], [.int 3, .int 0, .int 3], hC0, 0, 0)) rfl ?_
  refine mEnds.call (d := 19) (y' := 105) (as := [.int 3, .int 0, .int 3]) (q' := (6, [some (.ref 1), some (.int 3), some (.int x2), some (.int x3), none, none], [], hC0, 0, 0)) (v := some (.int 1)) (hs' := hC0) (c' := 0) (s' := 0) rfl rfl ?_ ?_
  · refine mEnds.steps 8 (q' := (15, [some (.int 3), some (.int 0), some (.int 3)], [.int 1], hC0, 0, 0)) rfl ?_
    exact mEnds.ret rfl
  show mEnds [] 20 101 (6, [some (.ref 1), some (.int 3), some (.int x2), some (.int x3), none, none], [.int 1], hC0, 0, 0) _
  refine mEnds.steps 10 (q' := (27, [some (.ref 1), some (.int 3), some (.int x2), some (.int x3), some (.ref 130), none], [.int x2, .int (-1), .ref 130], hC0, 0, 0)) rfl ?_
  refine mEnds.call (d := 19) (y' := 33) (as := [.ref 130, .int (-1), .int x2]) (q' := (30, [some (.ref 1), some (.int 3), some (.int x2), some (.int x3), some (.ref 130), none], [], hC0, 0, 0)) (v := some (.int 1)) (hs' := hC0) (c' := 0) (s' := 0) rfl rfl ?_ ?_
  · refine mEnds.steps 1 (q' := (1, [some (.ref 130), some (.int (-1)), some (.int x2)], [.ref 130], hC0, 0, 0)) rfl ?_
    refine mEnds.call (d := 18) (y' := 30) (as := [.ref 130]) (q' := (4, [some (.ref 130), some (.int (-1)), some (.int x2)], [], hC0, 0, 0)) (v := some (.int 0)) (hs' := hC0) (c' := 0) (s' := 0) rfl rfl ?_ ?_
    · refine mEnds.steps 5 (q' := (13, [some (.ref 130)], [.int 0], hC0, 0, 0)) rfl ?_
      exact mEnds.ret rfl
    show mEnds [] 19 33 (4, [some (.ref 130), some (.int (-1)), some (.int x2)], [.int 0], hC0, 0, 0) _
    refine mEnds.steps 2 (q' := (8, [some (.ref 130), some (.int (-1)), some (.int x2)], [.int 1], hC0, 0, 0)) rfl ?_
    exact mEnds.ret rfl
  show mEnds [] 20 101 (30, [some (.ref 1), some (.int 3), some (.int x2), some (.int x3), some (.ref 130), none], [.int 1], hC0, 0, 0) _
  refine mEnds.steps 6 (q' := (42, [some (.ref 1), some (.int 3), some (.int x2), some (.int x3), some (.ref 130), some (.int 1)], [.int (-11)], hC0, 0, 0)) rfl ?_
  exact mEnds.ret rfl
set_option maxRecDepth 100000 in
theorem m35_FFv3 (x2 x3 : Int32)  : ∃ hs', mEnds [] 20 180 (mentry 180 [.ref 1, .int 3, .int x2, .int x3] hM0) (some (.int (-11)), hs', 0, 0) := by
  refine ⟨hM0, ?_⟩
  refine mEnds.steps 4 (q' := (6, [some (.ref 1), some (.int 3), some (.int x2), some (.int x3)], [.long 3, .long 0, .long 3], hM0, 0, 0)) rfl ?_
  refine mEnds.call (d := 19) (y' := 111) (as := [.long 3, .long 0, .long 3]) (q' := (9, [some (.ref 1), some (.int 3), some (.int x2), some (.int x3)], [], hM0, 0, 0)) (v := some (.int 1)) (hs' := hM0) (c' := 0) (s' := 0) rfl rfl ?_ ?_
  · refine mEnds.steps 10 (q' := (18, [some (.long 3), none, some (.long 0), none, some (.long 3), none], [.int 1], hM0, 0, 0)) rfl ?_
    exact mEnds.ret rfl
  show mEnds [] 20 180 (9, [some (.ref 1), some (.int 3), some (.int x2), some (.int x3)], [.int 1], hM0, 0, 0) _
  refine mEnds.steps 8 (q' := (27, [some (.ref 1), some (.int 3), some (.int x2), some (.int x3)], [.int (-11)], hM0, 0, 0)) rfl ?_
  exact mEnds.ret rfl
theorem ok_35 (x1 x2 x3 x4 x5 : Int32) : callOK_35 x1 x2 x3 x4 x5 := by
  cases f0 : decide (x1 < 0) with
  | true =>
    obtain ⟨h1, a1⟩ := c35_T x1 x2 x3 f0
    obtain ⟨h2, a2⟩ := m35_T x1 x2 x3 f0
    exact ⟨_, h1, h2, a1, a2⟩
  | false =>
    cases f1 : decide (3 < x1) with
    | true =>
      obtain ⟨h1, a1⟩ := c35_FT x1 x2 x3 f0 f1
      obtain ⟨h2, a2⟩ := m35_FT x1 x2 x3 f0 f1
      exact ⟨_, h1, h2, a1, a2⟩
    | false =>
      obtain ⟨k2, hk2, ek2⟩ := i32_rng (n := 4) f0 f1 (by decide)
      clear f0 f1
      match k2, hk2, ek2 with
      | 0, _, e =>
        obtain rfl := i32_at (c := 0) e (by decide)
        obtain ⟨h1, a1⟩ := c35_FFv0 x2 x3
        obtain ⟨h2, a2⟩ := m35_FFv0 x2 x3
        exact ⟨_, h1, h2, a1, a2⟩
      | 1, _, e =>
        obtain rfl := i32_at (c := 1) e (by decide)
        obtain ⟨h1, a1⟩ := c35_FFv1 x2 x3
        obtain ⟨h2, a2⟩ := m35_FFv1 x2 x3
        exact ⟨_, h1, h2, a1, a2⟩
      | 2, _, e =>
        obtain rfl := i32_at (c := 2) e (by decide)
        obtain ⟨h1, a1⟩ := c35_FFv2 x2 x3
        obtain ⟨h2, a2⟩ := m35_FFv2 x2 x3
        exact ⟨_, h1, h2, a1, a2⟩
      | 3, _, e =>
        obtain rfl := i32_at (c := 3) e (by decide)
        obtain ⟨h1, a1⟩ := c35_FFv3 x2 x3
        obtain ⟨h2, a2⟩ := m35_FFv3 x2 x3
        exact ⟨_, h1, h2, a1, a2⟩
      | k + 4, h, _ => exact absurd h (by omega)
set_option maxRecDepth 100000 in
theorem c37_o   : ∃ hs', mEnds [] 20 103 (mentry 103 [.ref 1] hC0) (some (.int 0), hs', 0, 0) := by
  refine ⟨hC0, ?_⟩
  refine mEnds.steps 2 (q' := (4, [some (.ref 1)], [.int 0], hC0, 0, 0)) rfl ?_
  exact mEnds.ret rfl
set_option maxRecDepth 100000 in
theorem m37_o   : ∃ hs', mEnds [] 20 182 (mentry 182 [.ref 1] hM0) (some (.int 0), hs', 0, 0) := by
  refine ⟨hM0, ?_⟩
  refine mEnds.steps 2 (q' := (4, [some (.ref 1)], [.int 0], hM0, 0, 0)) rfl ?_
  exact mEnds.ret rfl
theorem ok_37 (x1 x2 x3 x4 x5 : Int32) : callOK_37 x1 x2 x3 x4 x5 := by
  obtain ⟨h1, a1⟩ := c37_o 
  obtain ⟨h2, a2⟩ := m37_o 
  exact ⟨_, h1, h2, a1, a2⟩
set_option maxRecDepth 100000 in
theorem c38_T (x1 : Int32) (f0 : decide (x1 < 0) = true) : ∃ hs', mEnds [] 20 104 (mentry 104 [.ref 1, .int x1] hC0) (some (.int (-1)), hs', 0, 0) := by
  refine ⟨hC0, ?_⟩
  refine mEnds.steps 1 (q' := (1, [some (.ref 1), some (.int x1)], [.int x1], hC0, 0, 0)) rfl ?_
  refine mEnds.brP (q' := (151, [some (.ref 1), some (.int x1)], [], hC0, 0, 0)) rfl (Or.inl (sw_lo f0 (by decide))) rfl ?_
  refine mEnds.steps 1 (q' := (152, [some (.ref 1), some (.int x1)], [.int (-1)], hC0, 0, 0)) rfl ?_
  exact mEnds.ret rfl
set_option maxRecDepth 100000 in
theorem m38_T (x1 : Int32) (f0 : decide (x1 < 0) = true) : ∃ hs', mEnds [] 20 183 (mentry 183 [.ref 1, .int x1] hM0) (some (.int (-1)), hs', 0, 0) := by
  refine ⟨hM0, ?_⟩
  refine mEnds.steps 19 (q' := (71, [some (.ref 1), some (.int x1), some (.int 0), some (.int 0), some (.int 0)], [.int x1], hM0, 0, 0)) rfl ?_
  refine mEnds.brP (q' := (175, [some (.ref 1), some (.int x1), some (.int 0), some (.int 0), some (.int 0)], [], hM0, 0, 0)) rfl (Or.inl (sw_lo f0 (by decide))) rfl ?_
  refine mEnds.steps 1 (q' := (176, [some (.ref 1), some (.int x1), some (.int 0), some (.int 0), some (.int 0)], [.int (-1)], hM0, 0, 0)) rfl ?_
  exact mEnds.ret rfl
set_option maxRecDepth 100000 in
theorem c38_FT (x1 : Int32) (f0 : decide (x1 < 0) = false) (f1 : decide (5 < x1) = true) : ∃ hs', mEnds [] 20 104 (mentry 104 [.ref 1, .int x1] hC0) (some (.int (-1)), hs', 0, 0) := by
  refine ⟨hC0, ?_⟩
  refine mEnds.steps 1 (q' := (1, [some (.ref 1), some (.int x1)], [.int x1], hC0, 0, 0)) rfl ?_
  refine mEnds.brP (q' := (151, [some (.ref 1), some (.int x1)], [], hC0, 0, 0)) rfl (Or.inr (sw_hi f1 (by decide))) rfl ?_
  refine mEnds.steps 1 (q' := (152, [some (.ref 1), some (.int x1)], [.int (-1)], hC0, 0, 0)) rfl ?_
  exact mEnds.ret rfl
set_option maxRecDepth 100000 in
theorem m38_FT (x1 : Int32) (f0 : decide (x1 < 0) = false) (f1 : decide (5 < x1) = true) : ∃ hs', mEnds [] 20 183 (mentry 183 [.ref 1, .int x1] hM0) (some (.int (-1)), hs', 0, 0) := by
  refine ⟨hM0, ?_⟩
  refine mEnds.steps 19 (q' := (71, [some (.ref 1), some (.int x1), some (.int 0), some (.int 0), some (.int 0)], [.int x1], hM0, 0, 0)) rfl ?_
  refine mEnds.brP (q' := (175, [some (.ref 1), some (.int x1), some (.int 0), some (.int 0), some (.int 0)], [], hM0, 0, 0)) rfl (Or.inr (sw_hi f1 (by decide))) rfl ?_
  refine mEnds.steps 1 (q' := (176, [some (.ref 1), some (.int x1), some (.int 0), some (.int 0), some (.int 0)], [.int (-1)], hM0, 0, 0)) rfl ?_
  exact mEnds.ret rfl
set_option maxRecDepth 100000 in
theorem c38_FFv0   : ∃ hs', mEnds [] 20 104 (mentry 104 [.ref 1, .int 0] hC0) (some (.int 0), hs', 0, 0) := by
  refine ⟨hC0, ?_⟩
  refine mEnds.steps 5 (q' := (47, [some (.ref 1), some (.int 0)], [.int 0], hC0, 0, 0)) rfl ?_
  exact mEnds.ret rfl
set_option maxRecDepth 100000 in
theorem m38_FFv0   : ∃ hs', mEnds [] 20 183 (mentry 183 [.ref 1, .int 0] hM0) (some (.int 0), hs', 0, 0) := by
  refine ⟨hM0, ?_⟩
  refine mEnds.steps 22 (q' := (112, [some (.ref 1), some (.int 0), some (.int 0), some (.int 0), some (.int 0)], [.int 0], hM0, 0, 0)) rfl ?_
  exact mEnds.ret rfl
set_option maxRecDepth 100000 in
theorem c38_FFv1   : ∃ hs', mEnds [] 20 104 (mentry 104 [.ref 1, .int 1] hC0) (some (.int 0), hs', 0, 0) := by
  refine ⟨hC0, ?_⟩
  refine mEnds.steps 15 (q' := (77, [some (.ref 1), some (.int 1)], [.int 0], hC0, 0, 0)) rfl ?_
  exact mEnds.ret rfl
set_option maxRecDepth 100000 in
theorem m38_FFv1   : ∃ hs', mEnds [] 20 183 (mentry 183 [.ref 1, .int 1] hM0) (some (.int 0), hs', 0, 0) := by
  refine ⟨hM0, ?_⟩
  refine mEnds.steps 25 (q' := (126, [some (.ref 1), some (.int 1), some (.int 0), some (.int 0), some (.int 0)], [], hM0, 0, 0)) rfl ?_
  refine mEnds.steps 8 (q' := (142, [some (.ref 1), some (.int 1), some (.int 0), some (.int 0), some (.int 0)], [.int 0], hM0, 0, 0)) rfl ?_
  exact mEnds.ret rfl
set_option maxRecDepth 100000 in
theorem c38_FFv2   : ∃ hs', mEnds [] 20 104 (mentry 104 [.ref 1, .int 2] hC0) (some (.int 0), hs', 0, 0) := by
  refine ⟨hC0, ?_⟩
  refine mEnds.steps 5 (q' := (85, [some (.ref 1), some (.int 2)], [.int 0], hC0, 0, 0)) rfl ?_
  exact mEnds.ret rfl
set_option maxRecDepth 100000 in
theorem m38_FFv2   : ∃ hs', mEnds [] 20 183 (mentry 183 [.ref 1, .int 2] hM0) (some (.int 0), hs', 0, 0) := by
  refine ⟨hM0, ?_⟩
  refine mEnds.steps 22 (q' := (147, [some (.ref 1), some (.int 2), some (.int 0), some (.int 0), some (.int 0)], [.int 0], hM0, 0, 0)) rfl ?_
  exact mEnds.ret rfl
set_option maxRecDepth 100000 in
theorem c38_FFv3   : ∃ hs', mEnds [] 20 104 (mentry 104 [.ref 1, .int 3] hC0) (some (.int (-4)), hs', 0, 0) := by
  refine ⟨hC0, ?_⟩
  refine mEnds.steps 6 (q' := (92, [some (.ref 1), some (.int 3)], [.ref 124], hC0, 0, 0)) rfl ?_
  refine mEnds.call (d := 19) (y' := 30) (as := [.ref 124]) (q' := (95, [some (.ref 1), some (.int 3)], [], hC0, 0, 0)) (v := some (.int 0)) (hs' := hC0) (c' := 0) (s' := 0) rfl rfl ?_ ?_
  · refine mEnds.steps 5 (q' := (13, [some (.ref 124)], [.int 0], hC0, 0, 0)) rfl ?_
    exact mEnds.ret rfl
  show mEnds [] 20 104 (95, [some (.ref 1), some (.int 3)], [.int 0], hC0, 0, 0) _
  refine mEnds.steps 2 (q' := (112, [some (.ref 1), some (.int 3)], [.int (-4)], hC0, 0, 0)) rfl ?_
  exact mEnds.ret rfl
set_option maxRecDepth 100000 in
theorem m38_FFv3   : ∃ hs', mEnds [] 20 183 (mentry 183 [.ref 1, .int 3] hM0) (some (.int (-4)), hs', 0, 0) := by
  refine ⟨hM0, ?_⟩
  refine mEnds.steps 25 (q' := (156, [some (.ref 1), some (.int 3), some (.int 0), some (.int 0), some (.int 0)], [.int (-4), .int (-4)], hM0, 0, 0)) rfl ?_
  refine mEnds.steps 3 (q' := (170, [some (.ref 1), some (.int 3), some (.int 0), some (.int 0), some (.int 0)], [.int (-4)], hM0, 0, 0)) rfl ?_
  exact mEnds.ret rfl
set_option maxRecDepth 100000 in
theorem c38_FFv4   : ∃ hs', mEnds [] 20 104 (mentry 104 [.ref 1, .int 4] hC0) (some (.int 0), hs', 0, 0) := by
  refine ⟨hC0, ?_⟩
  refine mEnds.steps 8 (q' := (127, [some (.ref 1), some (.int 4)], [.int 0, .ref 4], hC0, 0, 0)) rfl ?_
  refine mEnds.call (d := 19) (y' := 106) (as := [.ref 4, .int 0]) (q' := (130, [some (.ref 1), some (.int 4)], [], hC0, 0, 0)) (v := some (.int 0)) (hs' := hC0) (c' := 0) (s' := 0) rfl rfl ?_ ?_
  · refine mEnds.steps 8 (q' := (28, [some (.ref 4), some (.int 0), some (.int 0), some (.int 0)], [.int 0], hC0, 0, 0)) rfl ?_
    exact mEnds.ret rfl
  show mEnds [] 20 104 (130, [some (.ref 1), some (.int 4)], [.int 0], hC0, 0, 0) _
  exact mEnds.ret rfl
set_option maxRecDepth 100000 in
theorem m38_FFv4   : ∃ hs', mEnds [] 20 183 (mentry 183 [.ref 1, .int 4] hM0) (some (.int 0), hs', 0, 0) := by
  refine ⟨hM0, ?_⟩
  refine mEnds.steps 21 (q' := (172, [some (.ref 1), some (.int 4), some (.int 0), some (.int 0), some (.int 0)], [.int 0], hM0, 0, 0)) rfl ?_
  exact mEnds.ret rfl
set_option maxRecDepth 100000 in
theorem c38_FFv5   : ∃ hs', mEnds [] 20 104 (mentry 104 [.ref 1, .int 5] hC0) (some (.int 0), hs', 0, 0) := by
  refine ⟨hC0, ?_⟩
  refine mEnds.steps 10 (q' := (147, [some (.ref 1), some (.int 5)], [.int (-1), .ref 8], hC0, 0, 0)) rfl ?_
  refine mEnds.call (d := 19) (y' := 106) (as := [.ref 8, .int (-1)]) (q' := (150, [some (.ref 1), some (.int 5)], [], hC0, 0, 0)) (v := some (.int 0)) (hs' := hC0) (c' := 0) (s' := 0) rfl rfl ?_ ?_
  · refine mEnds.steps 8 (q' := (28, [some (.ref 8), some (.int (-1)), some (.int 0), some (.int 0)], [.int 0], hC0, 0, 0)) rfl ?_
    exact mEnds.ret rfl
  show mEnds [] 20 104 (150, [some (.ref 1), some (.int 5)], [.int 0], hC0, 0, 0) _
  exact mEnds.ret rfl
set_option maxRecDepth 100000 in
theorem m38_FFv5   : ∃ hs', mEnds [] 20 183 (mentry 183 [.ref 1, .int 5] hM0) (some (.int 0), hs', 0, 0) := by
  refine ⟨hM0, ?_⟩
  refine mEnds.steps 21 (q' := (174, [some (.ref 1), some (.int 5), some (.int 0), some (.int 0), some (.int 0)], [.int 0], hM0, 0, 0)) rfl ?_
  exact mEnds.ret rfl
theorem ok_38 (x1 x2 x3 x4 x5 : Int32) : callOK_38 x1 x2 x3 x4 x5 := by
  cases f0 : decide (x1 < 0) with
  | true =>
    obtain ⟨h1, a1⟩ := c38_T x1 f0
    obtain ⟨h2, a2⟩ := m38_T x1 f0
    exact ⟨_, h1, h2, a1, a2⟩
  | false =>
    cases f1 : decide (5 < x1) with
    | true =>
      obtain ⟨h1, a1⟩ := c38_FT x1 f0 f1
      obtain ⟨h2, a2⟩ := m38_FT x1 f0 f1
      exact ⟨_, h1, h2, a1, a2⟩
    | false =>
      obtain ⟨k2, hk2, ek2⟩ := i32_rng (n := 6) f0 f1 (by decide)
      clear f0 f1
      match k2, hk2, ek2 with
      | 0, _, e =>
        obtain rfl := i32_at (c := 0) e (by decide)
        obtain ⟨h1, a1⟩ := c38_FFv0 
        obtain ⟨h2, a2⟩ := m38_FFv0 
        exact ⟨_, h1, h2, a1, a2⟩
      | 1, _, e =>
        obtain rfl := i32_at (c := 1) e (by decide)
        obtain ⟨h1, a1⟩ := c38_FFv1 
        obtain ⟨h2, a2⟩ := m38_FFv1 
        exact ⟨_, h1, h2, a1, a2⟩
      | 2, _, e =>
        obtain rfl := i32_at (c := 2) e (by decide)
        obtain ⟨h1, a1⟩ := c38_FFv2 
        obtain ⟨h2, a2⟩ := m38_FFv2 
        exact ⟨_, h1, h2, a1, a2⟩
      | 3, _, e =>
        obtain rfl := i32_at (c := 3) e (by decide)
        obtain ⟨h1, a1⟩ := c38_FFv3 
        obtain ⟨h2, a2⟩ := m38_FFv3 
        exact ⟨_, h1, h2, a1, a2⟩
      | 4, _, e =>
        obtain rfl := i32_at (c := 4) e (by decide)
        obtain ⟨h1, a1⟩ := c38_FFv4 
        obtain ⟨h2, a2⟩ := m38_FFv4 
        exact ⟨_, h1, h2, a1, a2⟩
      | 5, _, e =>
        obtain rfl := i32_at (c := 5) e (by decide)
        obtain ⟨h1, a1⟩ := c38_FFv5 
        obtain ⟨h2, a2⟩ := m38_FFv5 
        exact ⟨_, h1, h2, a1, a2⟩
      | k + 6, h, _ => exact absurd h (by omega)
