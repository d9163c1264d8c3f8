set_option maxRecDepth 100000 in
theorem c13_T (x1 x2 : Int32) (f0 : decide (x1 < 0) = true) : ∃ hs', mEnds [] 20 69 (mentry 69 [.ref 1, .int x1, .int x2] hC0) (some (.int (-1)), hs', 0, 0) := by
  refine ⟨hC0, ?_⟩
  refine mEnds.steps 3 (q' := (4, [some (.ref 1), some (.int x1), some (.int x2)], [.int 7, .int 0, .int x1], hC0, 0, 0)) rfl ?_
  refine mEnds.call (d := 19) (y' := 105) (as := [.int x1, .int 0, .int 7]) (q' := (7, [some (.ref 1), some (.int x1), some (.int x2)], [], hC0, 0, 0)) (v := some (.int 0)) (hs' := hC0) (c' := 0) (s' := 0) rfl rfl ?_ ?_
  · refine mEnds.steps 2 (q' := (2, [some (.int x1), some (.int 0), some (.int 7)], [.int 0, .int x1], hC0, 0, 0)) rfl ?_
    refine mEnds.brT (q' := (14, [some (.int x1), some (.int 0), some (.int 7)], [], hC0, 0, 0)) rfl f0 rfl ?_
    refine mEnds.steps 1 (q' := (15, [some (.int x1), some (.int 0), some (.int 7)], [.int 0], hC0, 0, 0)) rfl ?_
    exact mEnds.ret rfl
  show mEnds [] 20 69 (7, [some (.ref 1), some (.int x1), some (.int x2)], [.int 0], hC0, 0, 0) _
  refine mEnds.steps 2 (q' := (21, [some (.ref 1), some (.int x1), some (.int x2)], [.int (-1)], hC0, 0, 0)) rfl ?_
  exact mEnds.ret rfl
set_option maxRecDepth 100000 in
theorem m13_T (x1 x2 : Int32) (f0 : decide (x1 < 0) = true) : ∃ hs', mEnds [] 20 150 (mentry 150 [.ref 1, .int x1, .int x2] hM0) (some (.int (-1)), hs', 0, 0) := by
  refine ⟨hM0, ?_⟩
  refine mEnds.steps 5 (q' := (7, [some (.ref 1), some (.int x1), some (.int x2)], [.long 7, .long 0, .long x1.toInt64, .ref 1], hM0, 0, 0)) rfl ?_
  refine mEnds.call (d := 19) (y' := 111) (as := [.long x1.toInt64, .long 0, .long 7]) (q' := (10, [some (.ref 1), some (.int x1), some (.int x2)], [.ref 1], hM0, 0, 0)) (v := some (.int 0)) (hs' := hM0) (c' := 0) (s' := 0) rfl rfl ?_ ?_
  · refine mEnds.steps 3 (q' := (3, [some (.long x1.toInt64), none, some (.long 0), none, some (.long 7), none], [.int (lg_cmp x1.toInt64 0)], hM0, 0, 0)) rfl ?_
    refine mEnds.brT (q' := (17, [some (.long x1.toInt64), none, some (.long 0), none, some (.long 7), none], [], hM0, 0, 0)) rfl (lgc_lt (c := 0) (by decide) f0) rfl ?_
    refine mEnds.steps 1 (q' := (18, [some (.long x1.toInt64), none, some (.long 0), none, some (.long 7), none], [.int 0], hM0, 0, 0)) rfl ?_
    exact mEnds.ret rfl
  show mEnds [] 20 150 (10, [some (.ref 1), some (.int x1), some (.int x2)], [.int 0, .ref 1], hM0, 0, 0) _
  refine mEnds.steps 7 (q' := (37, [some (.ref 1), some (.int x1), some (.int x2)], [.int 10, .int x2, .int (41 + x1), .int 0, .ref 1], hM0, 0, 0)) rfl ?_
  refine mEnds.call (d := 19) (y' := 142) (as := [.ref 1, .int 0, .int (41 + x1), .int x2, .int 10]) (q' := (40, [some (.ref 1), some (.int x1), some (.int x2)], [], hM0, 0, 0)) (v := some (.int (-1))) (hs' := hM0) (c' := 0) (s' := 0) rfl rfl ?_ ?_
  · refine mEnds.steps 3 (q' := (5, [some (.ref 1), some (.int 0), some (.int (41 + x1)), some (.int x2), some (.int 10), none], [.int (-1)], hM0, 0, 0)) rfl ?_
    exact mEnds.ret rfl
  show mEnds [] 20 150 (40, [some (.ref 1), some (.int x1), some (.int x2)], [.int (-1)], hM0, 0, 0) _
  exact mEnds.ret rfl
set_option maxRecDepth 100000 in
theorem c13_FT (x1 x2 : Int32) (f0 : decide (x1 < 0) = false) (f1 : decide (7 < x1) = true) : ∃ hs', mEnds [] 20 69 (mentry 69 [.ref 1, .int x1, .int x2] hC0) (some (.int (-1)), hs', 0, 0) := by
  refine ⟨hC0, ?_⟩
  refine mEnds.steps 3 (q' := (4, [some (.ref 1), some (.int x1), some (.int x2)], [.int 7, .int 0, .int x1], hC0, 0, 0)) rfl ?_
  refine mEnds.call (d := 19) (y' := 105) (as := [.int x1, .int 0, .int 7]) (q' := (7, [some (.ref 1), some (.int x1), some (.int x2)], [], hC0, 0, 0)) (v := some (.int 0)) (hs' := hC0) (c' := 0) (s' := 0) rfl rfl ?_ ?_
  · refine mEnds.steps 2 (q' := (2, [some (.int x1), some (.int 0), some (.int 7)], [.int 0, .int x1], hC0, 0, 0)) rfl ?_
    refine mEnds.brF (q' := (5, [some (.int x1), some (.int 0), some (.int 7)], [], hC0, 0, 0)) rfl f0 rfl ?_
    refine mEnds.steps 2 (q' := (7, [some (.int x1), some (.int 0), some (.int 7)], [.int 7, .int x1], hC0, 0, 0)) rfl ?_
    refine mEnds.brT (q' := (14, [some (.int x1), some (.int 0), some (.int 7)], [], hC0, 0, 0)) rfl f1 rfl ?_
    refine mEnds.steps 1 (q' := (15, [some (.int x1), some (.int 0), some (.int 7)], [.int 0], hC0, 0, 0)) rfl ?_
    exact mEnds.ret rfl
  show mEnds [] 20 69 (7, [some (.ref 1), some (.int x1), some (.int x2)], [.int 0], hC0, 0, 0) _
  refine mEnds.steps 2 (q' := (21, [some (.ref 1), some (.int x1), some (.int x2)], [.int (-1)], hC0, 0, 0)) rfl ?_
  exact mEnds.ret rfl
set_option maxRecDepth 100000 in
theorem m13_FT (x1 x2 : Int32) (f0 : decide (x1 < 0) = false) (f1 : decide (7 < x1) = true) : ∃ hs', mEnds [] 20 150 (mentry 150 [.ref 1, .int x1, .int x2] hM0) (some (.int (-1)), hs', 0, 0) := by
  refine ⟨hM0, ?_⟩
  refine mEnds.steps 5 (q' := (7, [some (.ref 1), some (.int x1), some (.int x2)], [.long 7, .long 0, .long x1.toInt64, .ref 1], hM0, 0, 0)) rfl ?_
  refine mEnds.call (d := 19) (y' := 111) (as := [.long x1.toInt64, .long 0, .long 7]) (q' := (10, [some (.ref 1), some (.int x1), some (.int x2)], [.ref 1], hM0, 0, 0)) (v := some (.int 0)) (hs' := hM0) (c' := 0) (s' := 0) rfl rfl ?_ ?_
  · refine mEnds.steps 3 (q' := (3, [some (.long x1.toInt64), none, some (.long 0), none, some (.long 7), none], [.int (lg_cmp x1.toInt64 0)], hM0, 0, 0)) rfl ?_
    refine mEnds.brF (q' := (6, [some (.long x1.toInt64), none, some (.long 0), none, some (.long 7), none], [], hM0, 0, 0)) rfl (lgc_lt (c := 0) (by decide) f0) rfl ?_
    refine mEnds.steps 3 (q' := (10, [some (.long x1.toInt64), none, some (.long 0), none, some (.long 7), none], [.int (lg_cmp x1.toInt64 7)], hM0, 0, 0)) rfl ?_
    refine mEnds.brT (q' := (17, [some (.long x1.toInt64), none, some (.long 0), none, some (.long 7), none], [], hM0, 0, 0)) rfl (lgc_gt (c := 7) (by decide) f1) rfl ?_
    refine mEnds.steps 1 (q' := (18, [some (.long x1.toInt64), none, some (.long 0), none, some (.long 7), none], [.int 0], hM0, 0, 0)) rfl ?_
    exact mEnds.ret rfl
  show mEnds [] 20 150 (10, [some (.ref 1), some (.int x1), some (.int x2)], [.int 0, .ref 1], hM0, 0, 0) _
  refine mEnds.steps 7 (q' := (37, [some (.ref 1), some (.int x1), some (.int x2)], [.int 10, .int x2, .int (41 + x1), .int 0, .ref 1], hM0, 0, 0)) rfl ?_
  refine mEnds.call (d := 19) (y' := 142) (as := [.ref 1, .int 0, .int (41 + x1), .int x2, .int 10]) (q' := (40, [some (.ref 1), some (.int x1), some (.int x2)], [], hM0, 0, 0)) (v := some (.int (-1))) (hs' := hM0) (c' := 0) (s' := 0) rfl rfl ?_ ?_
  · refine mEnds.steps 3 (q' := (5, [some (.ref 1), some (.int 0), some (.int (41 + x1)), some (.int x2), some (.int 10), none], [.int (-1)], hM0, 0, 0)) rfl ?_
    exact mEnds.ret rfl
  show mEnds [] 20 150 (40, [some (.ref 1), some (.int x1), some (.int x2)], [.int (-1)], hM0, 0, 0) _
  exact mEnds.ret rfl
set_option maxRecDepth 100000 in
theorem c13_FFT (x1 x2 : Int32) (f0 : decide (x1 < 0) = false) (f1 : decide (7 < x1) = false) (f2 : decide (x2 < 0) = true) : ∃ hs', mEnds [] 20 69 (mentry 69 [.ref 1, .int x1, .int x2] hC0) (some (.int (-1)), hs', 0, 0) := by
  refine ⟨hC0, ?_⟩
  refine mEnds.steps 3 (q' := (4, [some (.ref 1), some (.int x1), some (.int x2)], [.int 7, .int 0, .int x1], hC0, 0, 0)) rfl ?_
  refine mEnds.call (d := 19) (y' := 105) (as := [.int x1, .int 0, .int 7]) (q' := (7, [some (.ref 1), some (.int x1), some (.int x2)], [], hC0, 0, 0)) (v := some (.int 1)) (hs' := hC0) (c' := 0) (s' := 0) rfl rfl ?_ ?_
  · refine mEnds.steps 2 (q' := (2, [some (.int x1), some (.int 0), some (.int 7)], [.int 0, .int x1], hC0, 0, 0)) rfl ?_
    refine mEnds.brF (q' := (5, [some (.int x1), some (.int 0), some (.int 7)], [], hC0, 0, 0)) rfl f0 rfl ?_
    refine mEnds.steps 2 (q' := (7, [some (.int x1), some (.int 0), some (.int 7)], [.int 7, .int x1], hC0, 0, 0)) rfl ?_
    refine mEnds.brF (q' := (10, [some (.int x1), some (.int 0), some (.int 7)], [], hC0, 0, 0)) rfl f1 rfl ?_
    refine mEnds.steps 2 (q' := (15, [some (.int x1), some (.int 0), some (.int 7)], [.int 1], hC0, 0, 0)) rfl ?_
    exact mEnds.ret rfl
  show mEnds [] 20 69 (7, [some (.ref 1), some (.int x1), some (.int x2)], [.int 1], hC0, 0, 0) _
  refine mEnds.steps 4 (q' := (14, [some (.ref 1), some (.int x1), some (.int x2)], [.int 99, .int 0, .int x2], hC0, 0, 0)) rfl ?_
  refine mEnds.call (d := 19) (y' := 105) (as := [.int x2, .int 0, .int 99]) (q' := (17, [some (.ref 1), some (.int x1), some (.int x2)], [], hC0, 0, 0)) (v := some (.int 0)) (hs' := hC0) (c' := 0) (s' := 0) rfl rfl ?_ ?_
  · refine mEnds.steps 2 (q' := (2, [some (.int x2), some (.int 0), some (.int 99)], [.int 0, .int x2], hC0, 0, 0)) rfl ?_
    refine mEnds.brT (q' := (14, [some (.int x2), some (.int 0), some (.int 99)], [], hC0, 0, 0)) rfl f2 rfl ?_
    refine mEnds.steps 1 (q' := (15, [some (.int x2), some (.int 0), some (.int 99)], [.int 0], hC0, 0, 0)) rfl ?_
    exact mEnds.ret rfl
  show mEnds [] 20 69 (17, [some (.ref 1), some (.int x1), some (.int x2)], [.int 0], hC0, 0, 0) _
  refine mEnds.steps 2 (q' := (21, [some (.ref 1), some (.int x1), some (.int x2)], [.int (-1)], hC0, 0, 0)) rfl ?_
  exact mEnds.ret rfl
set_option maxRecDepth 100000 in
theorem m13_FFT (x1 x2 : Int32) (f0 : decide (x1 < 0) = false) (f1 : decide (7 < x1) = false) (f2 : decide (x2 < 0) = true) : ∃ hs', mEnds [] 20 150 (mentry 150 [.ref 1, .int x1, .int x2] hM0) (some (.int (-1)), hs', 0, 0) := by
  refine ⟨hM0, ?_⟩
  refine mEnds.steps 5 (q' := (7, [some (.ref 1), some (.int x1), some (.int x2)], [.long 7, .long 0, .long x1.toInt64, .ref 1], hM0, 0, 0)) rfl ?_
  refine mEnds.call (d := 19) (y' := 111) (as := [.long x1.toInt64, .long 0, .long 7]) (q' := (10, [some (.ref 1), some (.int x1), some (.int x2)], [.ref 1], hM0, 0, 0)) (v := some (.int 1)) (hs' := hM0) (c' := 0) (s' := 0) rfl rfl ?_ ?_
  · refine mEnds.steps 3 (q' := (3, [some (.long x1.toInt64), none, some (.long 0), none, some (.long 7), none], [.int (lg_cmp x1.toInt64 0)], hM0, 0, 0)) rfl ?_
    refine mEnds.brF (q' := (6, [some (.long x1.toInt64), none, some (.long 0), none, some (.long 7), none], [], hM0, 0, 0)) rfl (lgc_lt (c := 0) (by decide) f0) rfl ?_
    refine mEnds.steps 3 (q' := (10, [some (.long x1.toInt64), none, some (.long 0), none, some (.long 7), none], [.int (lg_cmp x1.toInt64 7)], hM0, 0, 0)) rfl ?_
    refine mEnds.brF (q' := (13, [some (.long x1.toInt64), none, some (.long 0), none, some (.long 7), none], [], hM0, 0, 0)) rfl (lgc_gt (c := 7) (by decide) f1) rfl ?_
    refine mEnds.steps 2 (q' := (18, [some (.long x1.toInt64), none, some (.long 0), none, some (.long 7), none], [.int 1], hM0, 0, 0)) rfl ?_
    exact mEnds.ret rfl
  show mEnds [] 20 150 (10, [some (.ref 1), some (.int x1), some (.int x2)], [.int 1, .ref 1], hM0, 0, 0) _
  refine mEnds.steps 5 (q' := (19, [some (.ref 1), some (.int x1), some (.int x2)], [.long 99, .long 0, .long x2.toInt64, .ref 1], hM0, 0, 0)) rfl ?_
  refine mEnds.call (d := 19) (y' := 111) (as := [.long x2.toInt64, .long 0, .long 99]) (q' := (22, [some (.ref 1), some (.int x1), some (.int x2)], [.ref 1], hM0, 0, 0)) (v := some (.int 0)) (hs' := hM0) (c' := 0) (s' := 0) rfl rfl ?_ ?_
  · refine mEnds.steps 3 (q' := (3, [some (.long x2.toInt64), none, some (.long 0), none, some (.long 99), none], [.int (lg_cmp x2.toInt64 0)], hM0, 0, 0)) rfl ?_
    refine mEnds.brT (q' := (17, [some (.long x2.toInt64), none, some (.long 0), none, some (.long 99), none], [], hM0, 0, 0)) rfl (lgc_lt (c := 0) (by decide) f2) rfl ?_
    refine mEnds.steps 1 (q' := (18, [some (.long x2.toInt64), none, some (.long 0), none, some (.long 99), none], [.int 0], hM0, 0, 0)) rfl ?_
    exact mEnds.ret rfl
  show mEnds [] 20 150 (22, [some (.ref 1), some (.int x1), some (.int x2)], [.int 0, .ref 1], hM0, 0, 0) _
  refine mEnds.steps 7 (q' := (37, [some (.ref 1), some (.int x1), some (.int x2)], [.int 10, .int x2, .int (41 + x1), .int 0, .ref 1], hM0, 0, 0)) rfl ?_
  refine mEnds.call (d := 19) (y' := 142) (as := [.ref 1, .int 0, .int (41 + x1), .int x2, .int 10]) (q' := (40, [some (.ref 1), some (.int x1), some (.int x2)], [], hM0, 0, 0)) (v := some (.int (-1))) (hs' := hM0) (c' := 0) (s' := 0) rfl rfl ?_ ?_
  · refine mEnds.steps 3 (q' := (5, [some (.ref 1), some (.int 0), some (.int (41 + x1)), some (.int x2), some (.int 10), none], [.int (-1)], hM0, 0, 0)) rfl ?_
    exact mEnds.ret rfl
  show mEnds [] 20 150 (40, [some (.ref 1), some (.int x1), some (.int x2)], [.int (-1)], hM0, 0, 0) _
  exact mEnds.ret rfl
set_option maxRecDepth 100000 in
theorem c13_FFFT (x1 x2 : Int32) (f0 : decide (x1 < 0) = false) (f1 : decide (7 < x1) = false) (f2 : decide (x2 < 0) = false) (f3 : decide (99 < x2) = true) : ∃ hs', mEnds [] 20 69 (mentry 69 [.ref 1, .int x1, .int x2] hC0) (some (.int (-1)), hs', 0, 0) := by
  refine ⟨hC0, ?_⟩
  refine mEnds.steps 3 (q' := (4, [some (.ref 1), some (.int x1), some (.int x2)], [.int 7, .int 0, .int x1], hC0, 0, 0)) rfl ?_
  refine mEnds.call (d := 19) (y' := 105) (as := [.int x1, .int 0, .int 7]) (q' := (7, [some (.ref 1), some (.int x1), some (.int x2)], [], hC0, 0, 0)) (v := some (.int 1)) (hs' := hC0) (c' := 0) (s' := 0) rfl rfl ?_ ?_
  · refine mEnds.steps 2 (q' := (2, [some (.int x1), some (.int 0), some (.int 7)], [.int 0, .int x1], hC0, 0, 0)) rfl ?_
    refine mEnds.brF (q' := (5, [some (.int x1), some (.int 0), some (.int 7)], [], hC0, 0, 0)) rfl f0 rfl ?_
    refine mEnds.steps 2 (q' := (7, [some (.int x1), some (.int 0), some (.int 7)], [.int 7, .int x1], hC0, 0, 0)) rfl ?_
    refine mEnds.brF (q' := (10, [some (.int x1), some (.int 0), some (.int 7)], [], hC0, 0, 0)) rfl f1 rfl ?_
    refine mEnds.steps 2 (q' := (15, [some (.int x1), some (.int 0), some (.int 7)], [.int 1], hC0, 0, 0)) rfl ?_
    exact mEnds.ret rfl
  show mEnds [] 20 69 (7, [some (.ref 1), some (.int x1), some (.int x2)], [.int 1], hC0, 0, 0) _
  refine mEnds.steps 4 (q' := (14, [some (.ref 1), some (.int x1), some (.int x2)], [.int 99, .int 0, .int x2], hC0, 0, 0)) rfl ?_
  refine mEnds.call (d := 19) (y' := 105) (as := [.int x2, .int 0, .int 99]) (q' := (17, [some (.ref 1), some (.int x1), some (.int x2)], [], hC0, 0, 0)) (v := some (.int 0)) (hs' := hC0) (c' := 0) (s' := 0) rfl rfl ?_ ?_
  · refine mEnds.steps 2 (q' := (2, [some (.int x2), some (.int 0), some (.int 99)], [.int 0, .int x2], hC0, 0, 0)) rfl ?_
    refine mEnds.brF (q' := (5, [some (.int x2), some (.int 0), some (.int 99)], [], hC0, 0, 0)) rfl f2 rfl ?_
    refine mEnds.steps 2 (q' := (7, [some (.int x2), some (.int 0), some (.int 99)], [.int 99, .int x2], hC0, 0, 0)) rfl ?_
    refine mEnds.brT (q' := (14, [some (.int x2), some (.int 0), some (.int 99)], [], hC0, 0, 0)) rfl f3 rfl ?_
    refine mEnds.steps 1 (q' := (15, [some (.int x2), some (.int 0), some (.int 99)], [.int 0], hC0, 0, 0)) rfl ?_
    exact mEnds.ret rfl
  show mEnds [] 20 69 (17, [some (.ref 1), some (.int x1), some (.int x2)], [.int 0], hC0, 0, 0) _
  refine mEnds.steps 2 (q' := (21, [some (.ref 1), some (.int x1), some (.int x2)], [.int (-1)], hC0, 0, 0)) rfl ?_
  exact mEnds.ret rfl
set_option maxRecDepth 100000 in
theorem m13_FFFT (x1 x2 : Int32) (f0 : decide (x1 < 0) = false) (f1 : decide (7 < x1) = false) (f2 : decide (x2 < 0) = false) (f3 : decide (99 < x2) = true) : ∃ hs', mEnds [] 20 150 (mentry 150 [.ref 1, .int x1, .int x2] hM0) (some (.int (-1)), hs', 0, 0) := by
  refine ⟨hM0, ?_⟩
  refine mEnds.steps 5 (q' := (7, [some (.ref 1), some (.int x1), some (.int x2)], [.long 7, .long 0, .long x1.toInt64, .ref 1], hM0, 0, 0)) rfl ?_
  refine mEnds.call (d := 19) (y' := 111) (as := [.long x1.toInt64, .long 0, .long 7]) (q' := (10, [some (.ref 1), some (.int x1), some (.int x2)], [.ref 1], hM0, 0, 0)) (v := some (.int 1)) (hs' := hM0) (c' := 0) (s' := 0) rfl rfl ?_ ?_
  · refine mEnds.steps 3 (q' := (3, [some (.long x1.toInt64), none, some (.long 0), none, some (.long 7), none], [.int (lg_cmp x1.toInt64 0)], hM0, 0, 0)) rfl ?_
    refine mEnds.brF (q' := (6, [some (.long x1.toInt64), none, some (.long 0), none, some (.long 7), none], [], hM0, 0, 0)) rfl (lgc_lt (c := 0) (by decide) f0) rfl ?_
    refine mEnds.steps 3 (q' := (10, [some (.long x1.toInt64), none, some (.long 0), none, some (.long 7), none], [.int (lg_cmp x1.toInt64 7)], hM0, 0, 0)) rfl ?_
    refine mEnds.brF (q' := (13, [some (.long x1.toInt64), none, some (.long 0), none, some (.long 7), none], [], hM0, 0, 0)) rfl (lgc_gt (c := 7) (by decide) f1) rfl ?_
    refine mEnds.steps 2 (q' := (18, [some (.long x1.toInt64), none, some (.long 0), none, some (.long 7), none], [.int 1], hM0, 0, 0)) rfl ?_
    exact mEnds.ret rfl
  show mEnds [] 20 150 (10, [some (.ref 1), some (.int x1), some (.int x2)], [.int 1, .ref 1], hM0, 0, 0) _
  refine mEnds.steps 5 (q' := (19, [some (.ref 1), some (.int x1), some (.int x2)], [.long 99, .long 0, .long x2.toInt64, .ref 1], hM0, 0, 0)) rfl ?_
  refine mEnds.call (d := 19) (y' := 111) (as := [.long x2.toInt64, .long 0, .long 99]) (q' := (22, [some (.ref 1), some (.int x1), some (.int x2)], [.ref 1], hM0, 0, 0)) (v := some (.int 0)) (hs' := hM0) (c' := 0) (s' := 0) rfl rfl ?_ ?_
  · refine mEnds.steps 3 (q' := (3, [some (.long x2.toInt64), none, some (.long 0), none, some (.long 99), none], [.int (lg_cmp x2.toInt64 0)], hM0, 0, 0)) rfl ?_
    refine mEnds.brF (q' := (6, [some (.long x2.toInt64), none, some (.long 0), none, some (.long 99), none], [], hM0, 0, 0)) rfl (lgc_lt (c := 0) (by decide) f2) rfl ?_
    refine mEnds.steps 3 (q' := (10, [some (.long x2.toInt64), none, some (.long 0), none, some (.long 99), none], [.int (lg_cmp x2.toInt64 99)], hM0, 0, 0)) rfl ?_
    refine mEnds.brT (q' := (17, [some (.long x2.toInt64), none, some (.long 0), none, some (.long 99), none], [], hM0, 0, 0)) rfl (lgc_gt (c := 99) (by decide) f3) rfl ?_
    refine mEnds.steps 1 (q' := (18, [some (.long x2.toInt64), none, some (.long 0), none, some (.long 99), none], [.int 0], hM0, 0, 0)) rfl ?_
    exact mEnds.ret rfl
  show mEnds [] 20 150 (22, [some (.ref 1), some (.int x1), some (.int x2)], [.int 0, .ref 1], hM0, 0, 0) _
  refine mEnds.steps 7 (q' := (37, [some (.ref 1), some (.int x1), some (.int x2)], [.int 10, .int x2, .int (41 + x1), .int 0, .ref 1], hM0, 0, 0)) rfl ?_
  refine mEnds.call (d := 19) (y' := 142) (as := [.ref 1, .int 0, .int (41 + x1), .int x2, .int 10]) (q' := (40, [some (.ref 1), some (.int x1), some (.int x2)], [], hM0, 0, 0)) (v := some (.int (-1))) (hs' := hM0) (c' := 0) (s' := 0) rfl rfl ?_ ?_
  · refine mEnds.steps 3 (q' := (5, [some (.ref 1), some (.int 0), some (.int (41 + x1)), some (.int x2), some (.int 10), none], [.int (-1)], hM0, 0, 0)) rfl ?_
    exact mEnds.ret rfl
  show mEnds [] 20 150 (40, [some (.ref 1), some (.int x1), some (.int x2)], [.int (-1)], hM0, 0, 0) _
  exact mEnds.ret rfl
set_option maxRecDepth 100000 in
theorem c13_FFFFv0 (x2 : Int32) (f2 : decide (x2 < 0) = false) (f3 : decide (99 < x2) = false) : ∃ hs', mEnds [] 20 69 (mentry 69 [.ref 1, .int 0, .int x2] hC0) (some (.int 10), hs', 0, 0) := by
  refine ⟨(hC0.set 9 (.inl (0, [x2, 10, 10, 10, 10, 10, 10, 10]))), ?_⟩
  refine mEnds.steps 3 (q' := (4, [some (.ref 1), some (.int 0), some (.int x2)], [.int 7, .int 0, .int 0], hC0, 0, 0)) rfl ?_
  refine mEnds.call (d := 19) (y' := 105) (as := [.int 0, .int 0, .int 7]) (q' := (7, [some (.ref 1), some (.int 0), some (.int x2)], [], hC0, 0, 0)) (v := some (.int 1)) (hs' := hC0) (c' := 0) (s' := 0) rfl rfl ?_ ?_
  · refine mEnds.steps 8 (q' := (15, [some (.int 0), some (.int 0), some (.int 7)], [.int 1], hC0, 0, 0)) rfl ?_
    exact mEnds.ret rfl
  show mEnds [] 20 69 (7, [some (.ref 1), some (.int 0), some (.int x2)], [.int 1], hC0, 0, 0) _
  refine mEnds.steps 4 (q' := (14, [some (.ref 1), some (.int 0), some (.int x2)], [.int 99, .int 0, .int x2], hC0, 0, 0)) rfl ?_
  refine mEnds.call (d := 19) (y' := 105) (as := [.int x2, .int 0, .int 99]) (q' := (17, [some (.ref 1), some (.int 0), some (.int x2)], [], hC0, 0, 0)) (v := some (.int 1)) (hs' := hC0) (c' := 0) (s' := 0) rfl rfl ?_ ?_
  · refine mEnds.steps 2 (q' := (2, [some (.int x2), some (.int 0), some (.int 99)], [.int 0, .int x2], hC0, 0, 0)) rfl ?_
    refine mEnds.brF (q' := (5, [some (.int x2), some (.int 0), some (.int 99)], [], hC0, 0, 0)) rfl f2 rfl ?_
    refine mEnds.steps 2 (q' := (7, [some (.int x2), some (.int 0), some (.int 99)], [.int 99, .int x2], hC0, 0, 0)) rfl ?_
    refine mEnds.brF (q' := (10, [some (.int x2), some (.int 0), some (.int 99)], [], hC0, 0, 0)) rfl f3 rfl ?_
    refine mEnds.steps 2 (q' := (15, [some (.int x2), some (.int 0), some (.int 99)], [.int 1], hC0, 0, 0)) rfl ?_
    exact mEnds.ret rfl
  show mEnds [] 20 69 (17, [some (.ref 1), some (.int 0), some (.int x2)], [.int 1], hC0, 0, 0) _
  refine mEnds.steps 6 (q' := (31, [some (.ref 1), some (.int 0), some (.int x2)], [.int x2, .int 0, .ref 9], hC0, 0, 0)) rfl ?_
  refine mEnds.call (d := 19) (y' := 107) (as := [.ref 9, .int 0, .int x2]) (q' := (34, [some (.ref 1), some (.int 0), some (.int x2)], [], hC0, 0, 0)) (v := some (.int 10)) (hs' := (hC0.set 9 (.inl (0, [x2, 10, 10, 10, 10, 10, 10, 10])))) (c' := 0) (s' := 0) rfl rfl ?_ ?_
  · refine mEnds.steps 9 (q' := (9, [some (.ref 9), some (.int 0), some (.int x2), some (.int 10)], [.int 10], (hC0.set 9 (.inl (0, [x2, 10, 10, 10, 10, 10, 10, 10]))), 0, 0)) rfl ?_
    exact mEnds.ret rfl
  show mEnds [] 20 69 (34, [some (.ref 1), some (.int 0), some (.int x2)], [.int 10], (hC0.set 9 (.inl (0, [x2, 10, 10, 10, 10, 10, 10, 10]))), 0, 0) _
  exact mEnds.ret rfl
set_option maxRecDepth 100000 in
theorem m13_FFFFv0 (x2 : Int32) (f2 : decide (x2 < 0) = false) (f3 : decide (99 < x2) = false) : ∃ hs', mEnds [] 20 150 (mentry 150 [.ref 1, .int 0, .int x2] hM0) (some (.int 10), hs', 0, 0) := by
  refine ⟨(hM0.set 2 (.inl (0, (List.replicate 312 0).set 41 (x2 - 10)))), ?_⟩
  refine mEnds.steps 5 (q' := (7, [some (.ref 1), some (.int 0), some (.int x2)], [.long 7, .long 0, .long 0, .ref 1], hM0, 0, 0)) rfl ?_
  refine mEnds.call (d := 19) (y' := 111) (as := [.long 0, .long 0, .long 7]) (q' := (10, [some (.ref 1), some (.int 0), some (.int x2)], [.ref 1], hM0, 0, 0)) (v := some (.int 1)) (hs' := hM0) (c' := 0) (s' := 0) rfl rfl ?_ ?_
  · refine mEnds.steps 10 (q' := (18, [some (.long 0), none, some (.long 0), none, some (.long 7), none], [.int 1], hM0, 0, 0)) rfl ?_
    exact mEnds.ret rfl
  show mEnds [] 20 150 (10, [some (.ref 1), some (.int 0), some (.int x2)], [.int 1, .ref 1], hM0, 0, 0) _
  refine mEnds.steps 5 (q' := (19, [some (.ref 1), some (.int 0), some (.int x2)], [.long 99, .long 0, .long x2.toInt64, .ref 1], hM0, 0, 0)) rfl ?_
  refine mEnds.call (d := 19) (y' := 111) (as := [.long x2.toInt64, .long 0, .long 99]) (q' := (22, [some (.ref 1), some (.int 0), some (.int x2)], [.ref 1], hM0, 0, 0)) (v := some (.int 1)) (hs' := hM0) (c' := 0) (s' := 0) rfl rfl ?_ ?_
  · refine mEnds.steps 3 (q' := (3, [some (.long x2.toInt64), none, some (.long 0), none, some (.long 99), none], [.int (lg_cmp x2.toInt64 0)], hM0, 0, 0)) rfl ?_
    refine mEnds.brF (q' := (6, [some (.long x2.toInt64), none, some (.long 0), none, some (.long 99), none], [], hM0, 0, 0)) rfl (lgc_lt (c := 0) (by decide) f2) rfl ?_
    refine mEnds.steps 3 (q' := (10, [some (.long x2.toInt64), none, some (.long 0), none, some (.long 99), none], [.int (lg_cmp x2.toInt64 99)], hM0, 0, 0)) rfl ?_
    refine mEnds.brF (q' := (13, [some (.long x2.toInt64), none, some (.long 0), none, some (.long 99), none], [], hM0, 0, 0)) rfl (lgc_gt (c := 99) (by decide) f3) rfl ?_
    refine mEnds.steps 2 (q' := (18, [some (.long x2.toInt64), none, some (.long 0), none, some (.long 99), none], [.int 1], hM0, 0, 0)) rfl ?_
    exact mEnds.ret rfl
  show mEnds [] 20 150 (22, [some (.ref 1), some (.int 0), some (.int x2)], [.int 1, .ref 1], hM0, 0, 0) _
  refine mEnds.steps 8 (q' := (37, [some (.ref 1), some (.int 0), some (.int x2)], [.int 10, .int x2, .int 41, .int 1, .ref 1], hM0, 0, 0)) rfl ?_
  refine mEnds.call (d := 19) (y' := 142) (as := [.ref 1, .int 1, .int 41, .int x2, .int 10]) (q' := (40, [some (.ref 1), some (.int 0), some (.int x2)], [], hM0, 0, 0)) (v := some (.int 10)) (hs' := (hM0.set 2 (.inl (0, (List.replicate 312 0).set 41 (x2 - 10))))) (c' := 0) (s' := 0) rfl rfl ?_ ?_
  · refine mEnds.steps 17 (q' := (29, [some (.ref 1), some (.int 1), some (.int 41), some (.int x2), some (.int 10), some (.int 10)], [.int 10], (hM0.set 2 (.inl (0, (List.replicate 312 0).set 41 (x2 - 10)))), 0, 0)) rfl ?_
    exact mEnds.ret rfl
  show mEnds [] 20 150 (40, [some (.ref 1), some (.int 0), some (.int x2)], [.int 10], (hM0.set 2 (.inl (0, (List.replicate 312 0).set 41 (x2 - 10)))), 0, 0) _
  exact mEnds.ret rfl
set_option maxRecDepth 100000 in
theorem c13_FFFFv1 (x2 : Int32) (f2 : decide (x2 < 0) = false) (f3 : decide (99 < x2) = false) : ∃ hs', mEnds [] 20 69 (mentry 69 [.ref 1, .int 1, .int x2] hC0) (some (.int 10), hs', 0, 0) := by
  refine ⟨(hC0.set 9 (.inl (0, [10, x2, 10, 10, 10, 10, 10, 10]))), ?_⟩
  refine mEnds.steps 3 (q' := (4, [some (.ref 1), some (.int 1), some (.int x2)], [.int 7, .int 0, .int 1], hC0, 0, 0)) rfl ?_
  refine mEnds.call (d := 19) (y' := 105) (as := [.int 1, .int 0, .int 7]) (q' := (7, [some (.ref 1), some (.int 1), some (.int x2)], [], hC0, 0, 0)) (v := some (.int 1)) (hs' := hC0) (c' := 0) (s' := 0) rfl rfl ?_ ?_
  · refine mEnds.steps 8 (q' := (15, [some (.int 1), some (.int 0), some (.int 7)], [.int 1], hC0, 0, 0)) rfl ?_
    exact mEnds.ret rfl
  show mEnds [] 20 69 (7, [some (.ref 1), some (.int 1), some (.int x2)], [.int 1], hC0, 0, 0) _
  refine mEnds.steps 4 (q' := (14, [some (.ref 1), some (.int 1), some (.int x2)], [.int 99, .int 0, .int x2], hC0, 0, 0)) rfl ?_
  refine mEnds.call (d := 19) (y' := 105) (as := [.int x2, .int 0, .int 99]) (q' := (17, [some (.ref 1), some (.int 1), some (.int x2)], [], hC0, 0, 0)) (v := some (.int 1)) (hs' := hC0) (c' := 0) (s' := 0) rfl rfl ?_ ?_
  · refine mEnds.steps 2 (q' := (2, [some (.int x2), some (.int 0), some (.int 99)], [.int 0, .int x2], hC0, 0, 0)) rfl ?_
    refine mEnds.brF (q' := (5, [some (.int x2), some (.int 0), some (.int 99)], [], hC0, 0, 0)) rfl f2 rfl ?_
    refine mEnds.steps 2 (q' := (7, [some (.int x2), some (.int 0), some (.int 99)], [.int 99, .int x2], hC0, 0, 0)) rfl ?_
    refine mEnds.brF (q' := (10, [some (.int x2), some (.int 0), some (.int 99)], [], hC0, 0, 0)) rfl f3 rfl ?_
    refine mEnds.steps 2 (q' := (15, [some (.int x2), some (.int 0), some (.int 99)], [.int 1], hC0, 0, 0)) rfl ?_
    exact mEnds.ret rfl
  show mEnds [] 20 69 (17, [some (.ref 1), some (.int 1), some (.int x2)], [.int 1], hC0, 0, 0) _
  refine mEnds.steps 6 (q' := (31, [some (.ref 1), some (.int 1), some (.int x2)], [.int x2, .int 1, .ref 9], hC0, 0, 0)) rfl ?_
  refine mEnds.call (d := 19) (y' := 107) (as := [.ref 9, .int 1, .int x2]) (q' := (34, [some (.ref 1), some (.int 1), some (.int x2)], [], hC0, 0, 0)) (v := some (.int 10)) (hs' := (hC0.set 9 (.inl (0, [10, x2, 10, 10, 10, 10, 10, 10])))) (c' := 0) (s' := 0) rfl rfl ?_ ?_
  · refine mEnds.steps 9 (q' := (9, [some (.ref 9), some (.int 1), some (.int x2), some (.int 10)], [.int 10], (hC0.set 9 (.inl (0, [10, x2, 10, 10, 10, 10, 10, 10]))), 0, 0)) rfl ?_
    exact mEnds.ret rfl
  show mEnds [] 20 69 (34, [some (.ref 1), some (.int 1), some (.int x2)], [.int 10], (hC0.set 9 (.inl (0, [10, x2, 10, 10, 10, 10, 10, 10]))), 0, 0) _
  exact mEnds.ret rfl
set_option maxRecDepth 100000 in
theorem m13_FFFFv1 (x2 : Int32) (f2 : decide (x2 < 0) = false) (f3 : decide (99 < x2) = false) : ∃ hs', mEnds [] 20 150 (mentry 150 [.ref 1, .int 1, .int x2] hM0) (some (.int 10), hs', 0, 0) := by
  refine ⟨(hM0.set 2 (.inl (0, (List.replicate 312 0).set 42 (x2 - 10)))), ?_⟩
  refine mEnds.steps 5 (q' := (7, [some (.ref 1), some (.int 1), some (.int x2)], [.long 7, .long 0, .long 1, .ref 1], hM0, 0, 0)) rfl ?_
  refine mEnds.call (d := 19) (y' := 111) (as := [.long 1, .long 0, .long 7]) (q' := (10, [some (.ref 1), some (.int 1), some (.int x2)], [.ref 1], hM0, 0, 0)) (v := some (.int 1)) (hs' := hM0) (c' := 0) (s' := 0) rfl rfl ?_ ?_
  · refine mEnds.steps 10 (q' := (18, [some (.long 1), none, some (.long 0), none, some (.long 7), none], [.int 1], hM0, 0, 0)) rfl ?_
    exact mEnds.ret rfl
  show mEnds [] 20 150 (10, [some (.ref 1), some (.int 1), some (.int x2)], [.int 1, .ref 1], hM0, 0, 0) _
  refine mEnds.steps 5 (q' := (19, [some (.ref 1), some (.int 1), some (.int x2)], [.long 99, .long 0, .long x2.toInt64, .ref 1], hM0, 0, 0)) rfl ?_
  refine mEnds.call (d := 19) (y' := 111) (as := [.long x2.toInt64, .long 0, .long 99]) (q' := (22, [some (.ref 1), some (.int 1), some (.int x2)], [.ref 1], hM0, 0, 0)) (v := some (.int 1)) (hs' := hM0) (c' := 0) (s' := 0) rfl rfl ?_ ?_
  · refine mEnds.steps 3 (q' := (3, [some (.long x2.toInt64), none, some (.long 0), none, some (.long 99), none], [.int (lg_cmp x2.toInt64 0)], hM0, 0, 0)) rfl ?_
    refine mEnds.brF (q' := (6, [some (.long x2.toInt64), none, some (.long 0), none, some (.long 99), none], [], hM0, 0, 0)) rfl (lgc_lt (c := 0) (by decide) f2) rfl ?_
    refine mEnds.steps 3 (q' := (10, [some (.long x2.toInt64), none, some (.long 0), none, some (.long 99), none], [.int (lg_cmp x2.toInt64 99)], hM0, 0, 0)) rfl ?_
    refine mEnds.brF (q' := (13, [some (.long x2.toInt64), none, some (.long 0), none, some (.long 99), none], [], hM0, 0, 0)) rfl (lgc_gt (c := 99) (by decide) f3) rfl ?_
    refine mEnds.steps 2 (q' := (18, [some (.long x2.toInt64), none, some (.long 0), none, some (.long 99), none], [.int 1], hM0, 0, 0)) rfl ?_
    exact mEnds.ret rfl
  show mEnds [] 20 150 (22, [some (.ref 1), some (.int 1), some (.int x2)], [.int 1, .ref 1], hM0, 0, 0) _
  refine mEnds.steps 8 (q' := (37, [some (.ref 1), some (.int 1), some (.int x2)], [.int 10, .int x2, .int 42, .int 1, .ref 1], hM0, 0, 0)) rfl ?_
  refine mEnds.call (d := 19) (y' := 142) (as := [.ref 1, .int 1, .int 42, .int x2, .int 10]) (q' := (40, [some (.ref 1), some (.int 1), some (.int x2)], [], hM0, 0, 0)) (v := some (.int 10)) (hs' := (hM0.set 2 (.inl (0, (List.replicate 312 0).set 42 (x2 - 10))))) (c' := 0) (s' := 0) rfl rfl ?_ ?_
  · refine mEnds.steps 17 (q' := (29, [some (.ref 1), some (.int 1), some (.int 42), some (.int x2), some (.int 10), some (.int 10)], [.int 10], (hM0.set 2 (.inl (0, (List.replicate 312 0).set 42 (x2 - 10)))), 0, 0)) rfl ?_
    exact mEnds.ret rfl
  show mEnds [] 20 150 (40, [some (.ref 1), some (.int 1), some (.int x2)], [.int 10], (hM0.set 2 (.inl (0, (List.replicate 312 0).set 42 (x2 - 10)))), 0, 0) _
  exact mEnds.ret rfl
set_option maxRecDepth 100000 in
theorem c13_FFFFv2 (x2 : Int32) (f2 : decide (x2 < 0) = false) (f3 : decide (99 < x2) = false) : ∃ hs', mEnds [] 20 69 (mentry 69 [.ref 1, .int 2, .int x2] hC0) (some (.int 10), hs', 0, 0) := by
  refine ⟨(hC0.set 9 (.inl (0, [10, 10, x2, 10, 10, 10, 10, 10]))), ?_⟩
  refine mEnds.steps 3 (q' := (4, [some (.ref 1), some (.int 2), some (.int x2)], [.int 7, .int 0, .int 2], hC0, 0, 0)) rfl ?_
  refine mEnds.call (d := 19) (y' := 105) (as := [.int 2, .int 0, .int 7]) (q' := (7, [some (.ref 1), some (.int 2), some (.int x2)], [], hC0, 0, 0)) (v := some (.int 1)) (hs' := hC0) (c' := 0) (s' := 0) rfl rfl ?_ ?_
  · refine mEnds.steps 8 (q' := (15, [some (.int 2), some (.int 0), some (.int 7)], [.int 1], hC0, 0, 0)) rfl ?_
    exact mEnds.ret rfl
  show mEnds [] 20 69 (7, [some (.ref 1), some (.int 2), some (.int x2)], [.int 1], hC0, 0, 0) _
  refine mEnds.steps 4 (q' := (14, [some (.ref 1), some (.int 2), some (.int x2)], [.int 99, .int 0, .int x2], hC0, 0, 0)) rfl ?_
  refine mEnds.call (d := 19) (y' := 105) (as := [.int x2, .int 0, .int 99]) (q' := (17, [some (.ref 1), some (.int 2), some (.int x2)], [], hC0, 0, 0)) (v := some (.int 1)) (hs' := hC0) (c' := 0) (s' := 0) rfl rfl ?_ ?_
  · refine mEnds.steps 2 (q' := (2, [some (.int x2), some (.int 0), some (.int 99)], [.int 0, .int x2], hC0, 0, 0)) rfl ?_
    refine mEnds.brF (q' := (5, [some (.int x2), some (.int 0), some (.int 99)], [], hC0, 0, 0)) rfl f2 rfl ?_
    refine mEnds.steps 2 (q' := (7, [some (.int x2), some (.int 0), some (.int 99)], [.int 99, .int x2], hC0, 0, 0)) rfl ?_
    refine mEnds.brF (q' := (10, [some (.int x2), some (.int 0), some (.int 99)], [], hC0, 0, 0)) rfl f3 rfl ?_
    refine mEnds.steps 2 (q' := (15, [some (.int x2), some (.int 0), some (.int 99)], [.int 1], hC0, 0, 0)) rfl ?_
    exact mEnds.ret rfl
  show mEnds [] 20 69 (17, [some (.ref 1), some (.int 2), some (.int x2)], [.int 1], hC0, 0, 0) _
  refine mEnds.steps 6 (q' := (31, [some (.ref 1), some (.int 2), some (.int x2)], [.int x2, .int 2, .ref 9], hC0, 0, 0)) rfl ?_
  refine mEnds.call (d := 19) (y' := 107) (as := [.ref 9, .int 2, .int x2]) (q' := (34, [some (.ref 1), some (.int 2), some (.int x2)], [], hC0, 0, 0)) (v := some (.int 10)) (hs' := (hC0.set 9 (.inl (0, [10, 10, x2, 10, 10, 10, 10, 10])))) (c' := 0) (s' := 0) rfl rfl ?_ ?_
  · refine mEnds.steps 9 (q' := (9, [some (.ref 9), some (.int 2), some (.int x2), some (.int 10)], [.int 10], (hC0.set 9 (.inl (0, [10, 10, x2, 10, 10, 10, 10, 10]))), 0, 0)) rfl ?_
    exact mEnds.ret rfl
  show mEnds [] 20 69 (34, [some (.ref 1), some (.int 2), some (.int x2)], [.int 10], (hC0.set 9 (.inl (0, [10, 10, x2, 10, 10, 10, 10, 10]))), 0, 0) _
  exact mEnds.ret rfl
set_option maxRecDepth 100000 in
theorem m13_FFFFv2 (x2 : Int32) (f2 : decide (x2 < 0) = false) (f3 : decide (99 < x2) = false) : ∃ hs', mEnds [] 20 150 (mentry 150 [.ref 1, .int 2, .int x2] hM0) (some (.int 10), hs', 0, 0) := by
  refine ⟨(hM0.set 2 (.inl (0, (List.replicate 312 0).set 43 (x2 - 10)))), ?_⟩
  refine mEnds.steps 5 (q' := (7, [some (.ref 1), some (.int 2), some (.int x2)], [.long 7, .long 0, .long 2, .ref 1], hM0, 0, 0)) rfl ?_
  refine mEnds.call (d := 19) (y' := 111) (as := [.long 2, .long 0, .long 7]) (q' := (10, [some (.ref 1), some (.int 2), some (.int x2)], [.ref 1], hM0, 0, 0)) (v := some (.int 1)) (hs' := hM0) (c' := 0) (s' := 0) rfl rfl ?_ ?_
  · refine mEnds.steps 10 (q' := (18, [some (.long 2), none, some (.long 0), none, some (.long 7), none], [.int 1], hM0, 0, 0)) rfl ?_
    exact mEnds.ret rfl
  show mEnds [] 20 150 (10, [some (.ref 1), some (.int 2), some (.int x2)], [.int 1, .ref 1], hM0, 0, 0) _
  refine mEnds.steps 5 (q' := (19, [some (.ref 1), some (.int 2), some (.int x2)], [.long 99, .long 0, .long x2.toInt64, .ref 1], hM0, 0, 0)) rfl ?_
  refine mEnds.call (d := 19) (y' := 111) (as := [.long x2.toInt64, .long 0, .long 99]) (q' := (22, [some (.ref 1), some (.int 2), some (.int x2)], [.ref 1], hM0, 0, 0)) (v := some (.int 1)) (hs' := hM0) (c' := 0) (s' := 0) rfl rfl ?_ ?_
  · refine mEnds.steps 3 (q' := (3, [some (.long x2.toInt64), none, some (.long 0), none, some (.long 99), none], [.int (lg_cmp x2.toInt64 0)], hM0, 0, 0)) rfl ?_
    refine mEnds.brF (q' := (6, [some (.long x2.toInt64), none, some (.long 0), none, some (.long 99), none], [], hM0, 0, 0)) rfl (lgc_lt (c := 0) (by decide) f2) rfl ?_
    refine mEnds.steps 3 (q' := (10, [some (.long x2.toInt64), none, some (.long 0), none, some (.long 99), none], [.int (lg_cmp x2.toInt64 99)], hM0, 0, 0)) rfl ?_
    refine mEnds.brF (q' := (13, [some (.long x2.toInt64), none, some (.long 0), none, some (.long 99), none], [], hM0, 0, 0)) rfl (lgc_gt (c := 99) (by decide) f3) rfl ?_
    refine mEnds.steps 2 (q' := (18, [some (.long x2.toInt64), none, some (.long 0), none, some (.long 99), none], [.int 1], hM0, 0, 0)) rfl ?_
    exact mEnds.ret rfl
  show mEnds [] 20 150 (22, [some (.ref 1), some (.int 2), some (.int x2)], [.int 1, .ref 1], hM0, 0, 0) _
  refine mEnds.steps 8 (q' := (37, [some (.ref 1), some (.int 2), some (.int x2)], [.int 10, .int x2, .int 43, .int 1, .ref 1], hM0, 0, 0)) rfl ?_
  refine mEnds.call (d := 19) (y' := 142) (as := [.ref 1, .int 1, .int 43, .int x2, .int 10]) (q' := (40, [some (.ref 1), some (.int 2), some (.int x2)], [], hM0, 0, 0)) (v := some (.int 10)) (hs' := (hM0.set 2 (.inl (0, (List.replicate 312 0).set 43 (x2 - 10))))) (c' := 0) (s' := 0) rfl rfl ?_ ?_
  · refine mEnds.steps 17 (q' := (29, [some (.ref 1), some (.int 1), some (.int 43), some (.int x2), some (.int 10), some (.int 10)], [.int 10], (hM0.set 2 (.inl (0, (List.replicate 312 0).set 43 (x2 - 10)))), 0, 0)) rfl ?_
    exact mEnds.ret rfl
  show mEnds [] 20 150 (40, [some (.ref 1), some (.int 2), some (.int x2)], [.int 10], (hM0.set 2 (.inl (0, (List.replicate 312 0).set 43 (x2 - 10)))), 0, 0) _
  exact mEnds.ret rfl
set_option maxRecDepth 100000 in
theorem c13_FFFFv3 (x2 : Int32) (f2 : decide (x2 < 0) = false) (f3 : decide (99 < x2) = false) : ∃ hs', mEnds [] 20 69 (mentry 69 [.ref 1, .int 3, .int x2] hC0) (some (.int 10), hs', 0, 0) := by
  refine ⟨(hC0.set 9 (.inl (0, [10, 10, 10, x2, 10, 10, 10, 10]))), ?_⟩
  refine mEnds.steps 3 (q' := (4, [some (.ref 1), some (.int 3), some (.int x2)], [.int 7, .int 0, .int 3], hC0, 0, 0)) rfl ?_
  refine mEnds.call (d := 19) (y' := 105) (as := [.int 3, .int 0, .int 7]) (q' := (7, [some (.ref 1), some (.int 3), some (.int x2)], [], hC0, 0, 0)) (v := some (.int 1)) (hs' := hC0) (c' := 0) (s' := 0) rfl rfl ?_ ?_
  · refine mEnds.steps 8 (q' := (15, [some (.int 3), some (.int 0), some (.int 7)], [.int 1], hC0, 0, 0)) rfl ?_
    exact mEnds.ret rfl
  show mEnds [] 20 69 (7, [some (.ref 1), some (.int 3), some (.int x2)], [.int 1], hC0, 0, 0) _
  refine mEnds.steps 4 (q' := (14, [some (.ref 1), some (.int 3), some (.int x2)], [.int 99, .int 0, .int x2], hC0, 0, 0)) rfl ?_
  refine mEnds.call (d := 19) (y' := 105) (as := [.int x2, .int 0, .int 99]) (q' := (17, [some (.ref 1), some (.int 3), some (.int x2)], [], hC0, 0, 0)) (v := some (.int 1)) (hs' := hC0) (c' := 0) (s' := 0) rfl rfl ?_ ?_
  · refine mEnds.steps 2 (q' := (2, [some (.int x2), some (.int 0), some (.int 99)], [.int 0, .int x2], hC0, 0, 0)) rfl ?_
    refine mEnds.brF (q' := (5, [some (.int x2), some (.int 0), some (.int 99)], [], hC0, 0, 0)) rfl f2 rfl ?_
    refine mEnds.steps 2 (q' := (7, [some (.int x2), some (.int 0), some (.int 99)], [.int 99, .int x2], hC0, 0, 0)) rfl ?_
    refine mEnds.brF (q' := (10, [some (.int x2), some (.int 0), some (.int 99)], [], hC0, 0, 0)) rfl f3 rfl ?_
    refine mEnds.steps 2 (q' := (15, [some (.int x2), some (.int 0), some (.int 99)], [.int 1], hC0, 0, 0)) rfl ?_
    exact mEnds.ret rfl
  show mEnds [] 20 69 (17, [some (.ref 1), some (.int 3), some (.int x2)], [.int 1], hC0, 0, 0) _
  refine mEnds.steps 6 (q' := (31, [some (.ref 1), some (.int 3), some (.int x2)], [.int x2, .int 3, .ref 9], hC0, 0, 0)) rfl ?_
  refine mEnds.call (d := 19) (y' := 107) (as := [.ref 9, .int 3, .int x2]) (q' := (34, [some (.ref 1), some (.int 3), some (.int x2)], [], hC0, 0, 0)) (v := some (.int 10)) (hs' := (hC0.set 9 (.inl (0, [10, 10, 10, x2, 10, 10, 10, 10])))) (c' := 0) (s' := 0) rfl rfl ?_ ?_
  · refine mEnds.steps 9 (q' := (9, [some (.ref 9), some (.int 3), some (.int x2), some (.int 10)], [.int 10], (hC0.set 9 (.inl (0, [10, 10, 10, x2, 10, 10, 10, 10]))), 0, 0)) rfl ?_
    exact mEnds.ret rfl
  show mEnds [] 20 69 (34, [some (.ref 1), some (.int 3), some (.int x2)], [.int 10], (hC0.set 9 (.inl (0, [10, 10, 10, x2, 10, 10, 10, 10]))), 0, 0) _
  exact mEnds.ret rfl
set_option maxRecDepth 100000 in
theorem m13_FFFFv3 (x2 : Int32) (f2 : decide (x2 < 0) = false) (f3 : decide (99 < x2) = false) : ∃ hs', mEnds [] 20 150 (mentry 150 [.ref 1, .int 3, .int x2] hM0) (some (.int 10), hs', 0, 0) := by
  refine ⟨(hM0.set 2 (.inl (0, (List.replicate 312 0).set 44 (x2 - 10)))), ?_⟩
  refine mEnds.steps 5 (q' := (7, [some (.ref 1), some (.int 3), some (.int x2)], [.long 7, .long 0, .long 3, .ref 1], hM0, 0, 0)) rfl ?_
  refine mEnds.call (d := 19) (y' := 111) (as := [.long 3, .long 0, .long 7]) (q' := (10, [some (.ref 1), some (.int 3), some (.int x2)], [.ref 1], hM0, 0, 0)) (v := some (.int 1)) (hs' := hM0) (c' := 0) (s' := 0) rfl rfl ?_ ?_
  · refine mEnds.steps 10 (q' := (18, [some (.long 3), none, some (.long 0), none, some (.long 7), none], [.int 1], hM0, 0, 0)) rfl ?_
    exact mEnds.ret rfl
  show mEnds [] 20 150 (10, [some (.ref 1), some (.int 3), some (.int x2)], [.int 1, .ref 1], hM0, 0, 0) _
  refine mEnds.steps 5 (q' := (19, [some (.ref 1), some (.int 3), some (.int x2)], [.long 99, .long 0, .long x2.toInt64, .ref 1], hM0, 0, 0)) rfl ?_
  refine mEnds.call (d := 19) (y' := 111) (as := [.long x2.toInt64, .long 0, .long 99]) (q' := (22, [some (.ref 1), some (.int 3), some (.int x2)], [.ref 1], hM0, 0, 0)) (v := some (.int 1)) (hs' := hM0) (c' := 0) (s' := 0) rfl rfl ?_ ?_
  · refine mEnds.steps 3 (q' := (3, [some (.long x2.toInt64), none, some (.long 0), none, some (.long 99), none], [.int (lg_cmp x2.toInt64 0)], hM0, 0, 0)) rfl ?_
    refine mEnds.brF (q' := (6, [some (.long x2.toInt64), none, some (.long 0), none, some (.long 99), none], [], hM0, 0, 0)) rfl (lgc_lt (c := 0) (by decide) f2) rfl ?_
    refine mEnds.steps 3 (q' := (10, [some (.long x2.toInt64), none, some (.long 0), none, some (.long 99), none], [.int (lg_cmp x2.toInt64 99)], hM0, 0, 0)) rfl ?_
    refine mEnds.brF (q' := (13, [some (.long x2.toInt64), none, some (.long 0), none, some (.long 99), none], [], hM0, 0, 0)) rfl (lgc_gt (c := 99) (by decide) f3) rfl ?_
    refine mEnds.steps 2 (q' := (18, [some (.long x2.toInt64), none, some (.long 0), none, some (.long 99), none], [.int 1], hM0, 0, 0)) rfl ?_
    exact mEnds.ret rfl
  show mEnds [] 20 150 (22, [some (.ref 1), some (.int 3), some (.int x2)], [.int 1, .ref 1], hM0, 0, 0) _
  refine mEnds.steps 8 (q' := (37, [some (.ref 1), some (.int 3), some (.int x2)], [.int 10, .int x2, .int 44, .int 1, .ref 1], hM0, 0, 0)) rfl ?_
  refine mEnds.call (d := 19) (y' := 142) (as := [.ref 1, .int 1, .int 44, .int x2, .int 10]) (q' := (40, [some (.ref 1), some (.int 3), some (.int x2)], [], hM0, 0, 0)) (v := some (.int 10)) (hs' := (hM0.set 2 (.inl (0, (List.replicate 312 0).set 44 (x2 - 10))))) (c' := 0) (s' := 0) rfl rfl ?_ ?_
  · refine mEnds.steps 17 (q' := (29, [some (.ref 1), some (.int 1), some (.int 44), some (.int x2), some (.int 10), some (.int 10)], [.int 10], (hM0.set 2 (.inl (0, (List.replicate 312 0).set 44 (x2 - 10)))), 0, 0)) rfl ?_
    exact mEnds.ret rfl
  show mEnds [] 20 150 (40, [some (.ref 1), some (.int 3), some (.int x2)], [.int 10], (hM0.set 2 (.inl (0, (List.replicate 312 0).set 44 (x2 - 10)))), 0, 0) _
  exact mEnds.ret rfl
set_option maxRecDepth 100000 in
theorem c13_FFFFv4 (x2 : Int32) (f2 : decide (x2 < 0) = false) (f3 : decide (99 < x2) = false) : ∃ hs', mEnds [] 20 69 (mentry 69 [.ref 1, .int 4, .int x2] hC0) (some (.int 10), hs', 0, 0) := by
  refine ⟨(hC0.set 9 (.inl (0, [10, 10, 10, 10, x2, 10, 10, 10]))), ?_⟩
  refine mEnds.steps 3 (q' := (4, [some (.ref 1), some (.int 4), some (.int x2)], [.int 7, .int 0, .int 4], hC0, 0, 0)) rfl ?_
  refine mEnds.call (d := 19) (y' := 105) (as := [.int 4, .int 0, .int 7]) (q' := (7, [some (.ref 1), some (.int 4), some (.int x2)], [], hC0, 0, 0)) (v := some (.int 1)) (hs' := hC0) (c' := 0) (s' := 0) rfl rfl ?_ ?_
  · refine mEnds.steps 8 (q' := (15, [some (.int 4), some (.int 0), some (.int 7)], [.int 1], hC0, 0, 0)) rfl ?_
    exact mEnds.ret rfl
  show mEnds [] 20 69 (7, [some (.ref 1), some (.int 4), some (.int x2)], [.int 1], hC0, 0, 0) _
  refine mEnds.steps 4 (q' := (14, [some (.ref 1), some (.int 4), some (.int x2)], [.int 99, .int 0, .int x2], hC0, 0, 0)) rfl ?_
  refine mEnds.call (d := 19) (y' := 105) (as := [.int x2, .int 0, .int 99]) (q' := (17, [some (.ref 1), some (.int 4), some (.int x2)], [], hC0, 0, 0)) (v := some (.int 1)) (hs' := hC0) (c' := 0) (s' := 0) rfl rfl ?_ ?_
  · refine mEnds.steps 2 (q' := (2, [some (.int x2), some (.int 0), some (.int 99)], [.int 0, .int x2], hC0, 0, 0)) rfl ?_
    refine mEnds.brF (q' := (5, [some (.int x2), some (.int 0), some (.int 99)], [], hC0, 0, 0)) rfl f2 rfl ?_
    refine mEnds.steps 2 (q' := (7, [some (.int x2), some (.int 0), some (.int 99)], [.int 99, .int x2], hC0, 0, 0)) rfl ?_
    refine mEnds.brF (q' := (10, [some (.int x2), some (.int 0), some (.int 99)], [], hC0, 0, 0)) rfl f3 rfl ?_
    refine mEnds.steps 2 (q' := (15, [some (.int x2), some (.int 0), some (.int 99)], [.int 1], hC0, 0, 0)) rfl ?_
    exact mEnds.ret rfl
  show mEnds [] 20 69 (17, [some (.ref 1), some (.int 4), some (.int x2)], [.int 1], hC0, 0, 0) _
  refine mEnds.steps 6 (q' := (31, [some (.ref 1), some (.int 4), some (.int x2)], [.int x2, .int 4, .ref 9], hC0, 0, 0)) rfl ?_
  refine mEnds.call (d := 19) (y' := 107) (as := [.ref 9, .int 4, .int x2]) (q' := (34, [some (.ref 1), some (.int 4), some (.int x2)], [], hC0, 0, 0)) (v := some (.int 10)) (hs' := (hC0.set 9 (.inl (0, [10, 10, 10, 10, x2, 10, 10, 10])))) (c' := 0) (s' := 0) rfl rfl ?_ ?_
  · refine mEnds.steps 9 (q' := (9, [some (.ref 9), some (.int 4), some (.int x2), some (.int 10)], [.int 10], (hC0.set 9 (.inl (0, [10, 10, 10, 10, x2, 10, 10, 10]))), 0, 0)) rfl ?_
    exact mEnds.ret rfl
  show mEnds [] 20 69 (34, [some (.ref 1), some (.int 4), some (.int x2)], [.int 10], (hC0.set 9 (.inl (0, [10, 10, 10, 10, x2, 10, 10, 10]))), 0, 0) _
  exact mEnds.ret rfl
set_option maxRecDepth 100000 in
theorem m13_FFFFv4 (x2 : Int32) (f2 : decide (x2 < 0) = false) (f3 : decide (99 < x2) = false) : ∃ hs', mEnds [] 20 150 (mentry 150 [.ref 1, .int 4, .int x2] hM0) (some (.int 10), hs', 0, 0) := by
  refine ⟨(hM0.set 2 (.inl (0, (List.replicate 312 0).set 45 (x2 - 10)))), ?_⟩
  refine mEnds.steps 5 (q' := (7, [some (.ref 1), some (.int 4), some (.int x2)], [.long 7, .long 0, .long 4, .ref 1], hM0, 0, 0)) rfl ?_
  refine mEnds.call (d := 19) (y' := 111) (as := [.long 4, .long 0, .long 7]) (q' := (10, [some (.ref 1), some (.int 4), some (.int x2)], [.ref 1], hM0, 0, 0)) (v := some (.int 1)) (hs' := hM0) (c' := 0) (s' := 0) rfl rfl ?_ ?_
  · refine mEnds.steps 10 (q' := (18, [some (.long 4), none, some (.long 0), none, some (.long 7), none], [.int 1], hM0, 0, 0)) rfl ?_
    exact mEnds.ret rfl
  show mEnds [] 20 150 (10, [some (.ref 1), some (.int 4), some (.int x2)], [.int 1, .ref 1], hM0, 0, 0) _
  refine mEnds.steps 5 (q' := (19, [some (.ref 1), some (.int 4), some (.int x2)], [.long 99, .long 0, .long x2.toInt64, .ref 1], hM0, 0, 0)) rfl ?_
  refine mEnds.call (d := 19) (y' := 111) (as := [.long x2.toInt64, .long 0, .long 99]) (q' := (22, [some (.ref 1), some (.int 4), some (.int x2)], [.ref 1], hM0, 0, 0)) (v := some (.int 1)) (hs' := hM0) (c' := 0) (s' := 0) rfl rfl ?_ ?_
  · refine mEnds.steps 3 (q' := (3, [some (.long x2.toInt64), none, some (.long 0), none, some (.long 99), none], [.int (lg_cmp x2.toInt64 0)], hM0, 0, 0)) rfl ?_
    refine mEnds.brF (q' := (6, [some (.long x2.toInt64), none, some (.long 0), none, some (.long 99), none], [], hM0, 0, 0)) rfl (lgc_lt (c := 0) (by decide) f2) rfl ?_
    refine mEnds.steps 3 (q' := (10, [some (.long x2.toInt64), none, some (.long 0), none, some (.long 99), none], [.int (lg_cmp x2.toInt64 99)], hM0, 0, 0)) rfl ?_
    refine mEnds.brF (q' := (13, [some (.long x2.toInt64), none, some (.long 0), none, some (.long 99), none], [], hM0, 0, 0)) rfl (lgc_gt (c := 99) (by decide) f3) rfl ?_
    refine mEnds.steps 2 (q' := (18, [some (.long x2.toInt64), none, some (.long 0), none, some (.long 99), none], [.int 1], hM0, 0, 0)) rfl ?_
    exact mEnds.ret rfl
  show mEnds [] 20 150 (22, [some (.ref 1), some (.int 4), some (.int x2)], [.int 1, .ref 1], hM0, 0, 0) _
  refine mEnds.steps 8 (q' := (37, [some (.ref 1), some (.int 4), some (.int x2)], [.int 10, .int x2, .int 45, .int 1, .ref 1], hM0, 0, 0)) rfl ?_
  refine mEnds.call (d := 19) (y' := 142) (as := [.ref 1, .int 1, .int 45, .int x2, .int 10]) (q' := (40, [some (.ref 1), some (.int 4), some (.int x2)], [], hM0, 0, 0)) (v := some (.int 10)) (hs' := (hM0.set 2 (.inl (0, (List.replicate 312 0).set 45 (x2 - 10))))) (c' := 0) (s' := 0) rfl rfl ?_ ?_
  · refine mEnds.steps 17 (q' := (29, [some (.ref 1), some (.int 1), some (.int 45), some (.int x2), some (.int 10), some (.int 10)], [.int 10], (hM0.set 2 (.inl (0, (List.replicate 312 0).set 45 (x2 - 10)))), 0, 0)) rfl ?_
    exact mEnds.ret rfl
  show mEnds [] 20 150 (40, [some (.ref 1), some (.int 4), some (.int x2)], [.int 10], (hM0.set 2 (.inl (0, (List.replicate 312 0).set 45 (x2 - 10)))), 0, 0) _
  exact mEnds.ret rfl
set_option maxRecDepth 100000 in
theorem c13_FFFFv5 (x2 : Int32) (f2 : decide (x2 < 0) = false) (f3 : decide (99 < x2) = false) : ∃ hs', mEnds [] 20 69 (mentry 69 [.ref 1, .int 5, .int x2] hC0) (some (.int 10), hs', 0, 0) := by
  refine ⟨(hC0.set 9 (.inl (0, [10, 10, 10, 10, 10, x2, 10, 10]))), ?_⟩
  refine mEnds.steps 3 (q' := (4, [some (.ref 1), some (.int 5), some (.int x2)], [.int 7, .int 0, .int 5], hC0, 0, 0)) rfl ?_
  refine mEnds.call (d := 19) (y' := 105) (as := [.int 5, .int 0, .int 7]) (q' := (7, [some (.ref 1), some (.int 5), some (.int x2)], [], hC0, 0, 0)) (v := some (.int 1)) (hs' := hC0) (c' := 0) (s' := 0) rfl rfl ?_ ?_
  · refine mEnds.steps 8 (q' := (15, [some (.int 5), some (.int 0), some (.int 7)], [.int 1], hC0, 0, 0)) rfl ?_
    exact mEnds.ret rfl
  show mEnds [] 20 69 (7, [some (.ref 1), some (.int 5), some (.int x2)], [.int 1], hC0, 0, 0) _
  refine mEnds.steps 4 (q' := (14, [some (.ref 1), some (.int 5), some (.int x2)], [.int 99, .int 0, .int x2], hC0, 0, 0)) rfl ?_
  refine mEnds.call (d := 19) (y' := 105) (as := [.int x2, .int 0, .int 99]) (q' := (17, [some (.ref 1), some (.int 5), some (.int x2)], [], hC0, 0, 0)) (v := some (.int 1)) (hs' := hC0) (c' := 0) (s' := 0) rfl rfl ?_ ?_
  · refine mEnds.steps 2 (q' := (2, [some (.int x2), some (.int 0), some (.int 99)], [.int 0, .int x2], hC0, 0, 0)) rfl ?_
    refine mEnds.brF (q' := (5, [some (.int x2), some (.int 0), some (.int 99)], [], hC0, 0, 0)) rfl f2 rfl ?_
    refine mEnds.steps 2 (q' := (7, [some (.int x2), some (.int 0), some (.int 99)], [.int 99, .int x2], hC0, 0, 0)) rfl ?_
    refine mEnds.brF (q' := (10, [some (.int x2), some (.int 0), some (.int 99)], [], hC0, 0, 0)) rfl f3 rfl ?_
    refine mEnds.steps 2 (q' := (15, [some (.int x2), some (.int 0), some (.int 99)], [.int 1], hC0, 0, 0)) rfl ?_
    exact mEnds.ret rfl
  show mEnds [] 20 69 (17, [some (.ref 1), some (.int 5), some (.int x2)], [.int 1], hC0, 0, 0) _
  refine mEnds.steps 6 (q' := (31, [some (.ref 1), some (.int 5), some (.int x2)], [.int x2, .int 5, .ref 9], hC0, 0, 0)) rfl ?_
  refine mEnds.call (d := 19) (y' := 107) (as := [.ref 9, .int 5, .int x2]) (q' := (34, [some (.ref 1), some (.int 5), some (.int x2)], [], hC0, 0, 0)) (v := some (.int 10)) (hs' := (hC0.set 9 (.inl (0, [10, 10, 10, 10, 10, x2, 10, 10])))) (c' := 0) (s' := 0) rfl rfl ?_ ?_
  · refine mEnds.steps 9 (q' := (9, [some (.ref 9), some (.int 5), some (.int x2), some (.int 10)], [.int 10], (hC0.set 9 (.inl (0, [10, 10, 10, 10, 10, x2, 10, 10]))), 0, 0)) rfl ?_
    exact mEnds.ret rfl
  show mEnds [] 20 69 (34, [some (.ref 1), some (.int 5), some (.int x2)], [.int 10], (hC0.set 9 (.inl (0, [10, 10, 10, 10, 10, x2, 10, 10]))), 0, 0) _
  exact mEnds.ret rfl
set_option maxRecDepth 100000 in
theorem m13_FFFFv5 (x2 : Int32) (f2 : decide (x2 < 0) = false) (f3 : decide (99 < x2) = false) : ∃ hs', mEnds [] 20 150 (mentry 150 [.ref 1, .int 5, .int x2] hM0) (some (.int 10), hs', 0, 0) := by
  refine ⟨(hM0.set 2 (.inl (0, (List.replicate 312 0).set 46 (x2 - 10)))), ?_⟩
  refine mEnds.steps 5 (q' := (7, [some (.ref 1), some (.int 5), some (.int x2)], [.long 7, .long 0, .long 5, .ref 1], hM0, 0, 0)) rfl ?_
  refine mEnds.call (d := 19) (y' := 111) (as := [.long 5, .long 0, .long 7]) (q' := (10, [some (.ref 1), some (.int 5), some (.int x2)], [.ref 1], hM0, 0, 0)) (v := some (.int 1)) (hs' := hM0) (c' := 0) (s' := 0) rfl rfl ?_ ?_
  · refine mEnds.steps 10 (q' := (18, [some (.long 5), none, some (.long 0), none, some (.long 7), none], [.int 1], hM0, 0, 0)) rfl ?_
    exact mEnds.ret rfl
  show mEnds [] 20 150 (10, [some (.ref 1), some (.int 5), some (.int x2)], [.int 1, .ref 1], hM0, 0, 0) _
  refine mEnds.steps 5 (q' := (19, [some (.ref 1), some (.int 5), some (.int x2)], [.long 99, .long 0, .long x2.toInt64, .ref 1], hM0, 0, 0)) rfl ?_
  refine mEnds.call (d := 19) (y' := 111) (as := [.long x2.toInt64, .long 0, .long 99]) (q' := (22, [some (.ref 1), some (.int 5), some (.int x2)], [.ref 1], hM0, 0, 0)) (v := some (.int 1)) (hs' := hM0) (c' := 0) (s' := 0) rfl rfl ?_ ?_
  · refine mEnds.steps 3 (q' := (3, [some (.long x2.toInt64), none, some (.long 0), none, some (.long 99), none], [.int (lg_cmp x2.toInt64 0)], hM0, 0, 0)) rfl ?_
    refine mEnds.brF (q' := (6, [some (.long x2.toInt64), none, some (.long 0), none, some (.long 99), none], [], hM0, 0, 0)) rfl (lgc_lt (c := 0) (by decide) f2) rfl ?_
    refine mEnds.steps 3 (q' := (10, [some (.long x2.toInt64), none, some (.long 0), none, some (.long 99), none], [.int (lg_cmp x2.toInt64 99)], hM0, 0, 0)) rfl ?_
    refine mEnds.brF (q' := (13, [some (.long x2.toInt64), none, some (.long 0), none, some (.long 99), none], [], hM0, 0, 0)) rfl (lgc_gt (c := 99) (by decide) f3) rfl ?_
    refine mEnds.steps 2 (q' := (18, [some (.long x2.toInt64), none, some (.long 0), none, some (.long 99), none], [.int 1], hM0, 0, 0)) rfl ?_
    exact mEnds.ret rfl
  show mEnds [] 20 150 (22, [some (.ref 1), some (.int 5), some (.int x2)], [.int 1, .ref 1], hM0, 0, 0) _
  refine mEnds.steps 8 (q' := (37, [some (.ref 1), some (.int 5), some (.int x2)], [.int 10, .int x2, .int 46, .int 1, .ref 1], hM0, 0, 0)) rfl ?_
  refine mEnds.call (d := 19) (y' := 142) (as := [.ref 1, .int 1, .int 46, .int x2, .int 10]) (q' := (40, [some (.ref 1), some (.int 5), some (.int x2)], [], hM0, 0, 0)) (v := some (.int 10)) (hs' := (hM0.set 2 (.inl (0, (List.replicate 312 0).set 46 (x2 - 10))))) (c' := 0) (s' := 0) rfl rfl ?_ ?_
  · refine mEnds.steps 17 (q' := (29, [some (.ref 1), some (.int 1), some (.int 46), some (.int x2), some (.int 10), some (.int 10)], [.int 10], (hM0.set 2 (.inl (0, (List.replicate 312 0).set 46 (x2 - 10)))), 0, 0)) rfl ?_
    exact mEnds.ret rfl
  show mEnds [] 20 150 (40, [some (.ref 1), some (.int 5), some (.int x2)], [.int 10], (hM0.set 2 (.inl (0, (List.replicate 312 0).set 46 (x2 - 10)))), 0, 0) _
  exact mEnds.ret rfl
set_option maxRecDepth 100000 in
theorem c13_FFFFv6 (x2 : Int32) (f2 : decide (x2 < 0) = false) (f3 : decide (99 < x2) = false) : ∃ hs', mEnds [] 20 69 (mentry 69 [.ref 1, .int 6, .int x2] hC0) (some (.int 10), hs', 0, 0) := by
  refine ⟨(hC0.set 9 (.inl (0, [10, 10, 10, 10, 10, 10, x2, 10]))), ?_⟩
  refine mEnds.steps 3 (q' := (4, [some (.ref 1), some (.int 6), some (.int x2)], [.int 7, .int 0, .int 6], hC0, 0, 0)) rfl ?_
  refine mEnds.call (d := 19) (y' := 105) (as := [.int 6, .int 0, .int 7]) (q' := (7, [some (.ref 1), some (.int 6), some (.int x2)], [], hC0, 0, 0)) (v := some (.int 1)) (hs' := hC0) (c' := 0) (s' := 0) rfl rfl ?_ ?_
  · refine mEnds.steps 8 (q' := (15, [some (.int 6), some (.int 0), some (.int 7)], [.int 1], hC0, 0, 0)) rfl ?_
    exact mEnds.ret rfl
  show mEnds [] 20 69 (7, [some (.ref 1), some (.int 6), some (.int x2)], [.int 1], hC0, 0, 0) _
  refine mEnds.steps 4 (q' := (14, [some (.ref 1), some (.int 6), some (.int x2)], [.int 99, .int 0, .int x2], hC0, 0, 0)) rfl ?_
  refine mEnds.call (d := 19) (y' := 105) (as := [.int x2, .int 0, .int 99]) (q' := (17, [some (.ref 1), some (.int 6), some (.int x2)], [], hC0, 0, 0)) (v := some (.int 1)) (hs' := hC0) (c' := 0) (s' := 0) rfl rfl ?_ ?_
  · refine mEnds.steps 2 (q' := (2, [some (.int x2), some (.int 0), some (.int 99)], [.int 0, .int x2], hC0, 0, 0)) rfl ?_
    refine mEnds.brF (q' := (5, [some (.int x2), some (.int 0), some (.int 99)], [], hC0, 0, 0)) rfl f2 rfl ?_
    refine mEnds.steps 2 (q' := (7, [some (.int x2), some (.int 0), some (.int 99)], [.int 99, .int x2], hC0, 0, 0)) rfl ?_
    refine mEnds.brF (q' := (10, [some (.int x2), some (.int 0), some (.int 99)], [], hC0, 0, 0)) rfl f3 rfl ?_
    refine mEnds.steps 2 (q' := (15, [some (.int x2), some (.int 0), some (.int 99)], [.int 1], hC0, 0, 0)) rfl ?_
    exact mEnds.ret rfl
  show mEnds [] 20 69 (17, [some (.ref 1), some (.int 6), some (.int x2)], [.int 1], hC0, 0, 0) _
  refine mEnds.steps 6 (q' := (31, [some (.ref 1), some (.int 6), some (.int x2)], [.int x2, .int 6, .ref 9], hC0, 0, 0)) rfl ?_
  refine mEnds.call (d := 19) (y' := 107) (as := [.ref 9, .int 6, .int x2]) (q' := (34, [some (.ref 1), some (.int 6), some (.int x2)], [], hC0, 0, 0)) (v := some (.int 10)) (hs' := (hC0.set 9 (.inl (0, [10, 10, 10, 10, 10, 10, x2, 10])))) (c' := 0) (s' := 0) rfl rfl ?_ ?_
  · refine mEnds.steps 9 (q' := (9, [some (.ref 9), some (.int 6), some (.int x2), some (.int 10)], [.int 10], (hC0.set 9 (.inl (0, [10, 10, 10, 10, 10, 10, x2, 10]))), 0, 0)) rfl ?_
    exact mEnds.ret rfl
  show mEnds [] 20 69 (34, [some (.ref 1), some (.int 6), some (.int x2)], [.int 10], (hC0.set 9 (.inl (0, [10, 10, 10, 10, 10, 10, x2, 10]))), 0, 0) _
  exact mEnds.ret rfl
set_option maxRecDepth 100000 in
theorem m13_FFFFv6 (x2 : Int32) (f2 : decide (x2 < 0) = false) (f3 : decide (99 < x2) = false) : ∃ hs', mEnds [] 20 150 (mentry 150 [.ref 1, .int 6, .int x2] hM0) (some (.int 10), hs', 0, 0) := by
  refine ⟨(hM0.set 2 (.inl (0, (List.replicate 312 0).set 47 (x2 - 10)))), ?_⟩
  refine mEnds.steps 5 (q' := (7, [some (.ref 1), some (.int 6), some (.int x2)], [.long 7, .long 0, .long 6, .ref 1], hM0, 0, 0)) rfl ?_
  refine mEnds.call (d := 19) (y' := 111) (as := [.long 6, .long 0, .long 7]) (q' := (10, [some (.ref 1), some (.int 6), some (.int x2)], [.ref 1], hM0, 0, 0)) (v := some (.int 1)) (hs' := hM0) (c' := 0) (s' := 0) rfl rfl ?_ ?_
  · refine mEnds.steps 10 (q' := (18, [some (.long 6), none, some (.long 0), none, some (.long 7), none], [.int 1], hM0, 0, 0)) rfl ?_
    exact mEnds.ret rfl
  show mEnds [] 20 150 (10, [some (.ref 1), some (.int 6), some (.int x2)], [.int 1, .ref 1], hM0, 0, 0) _
  refine mEnds.steps 5 (q' := (19, [some (.ref 1), some (.int 6), some (.int x2)], [.long 99, .long 0, .long x2.toInt64, .ref 1], hM0, 0, 0)) rfl ?_
  refine mEnds.call (d := 19) (y' := 111) (as := [.long x2.toInt64, .long 0, .long 99]) (q' := (22, [some (.ref 1), some (.int 6), some (.int x2)], [.ref 1], hM0, 0, 0)) (v := some (.int 1)) (hs' := hM0) (c' := 0) (s' := 0) rfl rfl ?_ ?_
  · refine mEnds.steps 3 (q' := (3, [some (.long x2.toInt64), none, some (.long 0), none, some (.long 99), none], [.int (lg_cmp x2.toInt64 0)], hM0, 0, 0)) rfl ?_
    refine mEnds.brF (q' := (6, [some (.long x2.toInt64), none, some (.long 0), none, some (.long 99), none], [], hM0, 0, 0)) rfl (lgc_lt (c := 0) (by decide) f2) rfl ?_
    refine mEnds.steps 3 (q' := (10, [some (.long x2.toInt64), none, some (.long 0), none, some (.long 99), none], [.int (lg_cmp x2.toInt64 99)], hM0, 0, 0)) rfl ?_
    refine mEnds.brF (q' := (13, [some (.long x2.toInt64), none, some (.long 0), none, some (.long 99), none], [], hM0, 0, 0)) rfl (lgc_gt (c := 99) (by decide) f3) rfl ?_
    refine mEnds.steps 2 (q' := (18, [some (.long x2.toInt64), none, some (.long 0), none, some (.long 99), none], [.int 1], hM0, 0, 0)) rfl ?_
    exact mEnds.ret rfl
  show mEnds [] 20 150 (22, [some (.ref 1), some (.int 6), some (.int x2)], [.int 1, .ref 1], hM0, 0, 0) _
  refine mEnds.steps 8 (q' := (37, [some (.ref 1), some (.int 6), some (.int x2)], [.int 10, .int x2, .int 47, .int 1, .ref 1], hM0, 0, 0)) rfl ?_
  refine mEnds.call (d := 19) (y' := 142) (as := [.ref 1, .int 1, .int 47, .int x2, .int 10]) (q' := (40, [some (.ref 1), some (.int 6), some (.int x2)], [], hM0, 0, 0)) (v := some (.int 10)) (hs' := (hM0.set 2 (.inl (0, (List.replicate 312 0).set 47 (x2 - 10))))) (c' := 0) (s' := 0) rfl rfl ?_ ?_
  · refine mEnds.steps 17 (q' := (29, [some (.ref 1), some (.int 1), some (.int 47), some (.int x2), some (.int 10), some (.int 10)], [.int 10], (hM0.set 2 (.inl (0, (List.replicate 312 0).set 47 (x2 - 10)))), 0, 0)) rfl ?_
    exact mEnds.ret rfl
  show mEnds [] 20 150 (40, [some (.ref 1), some (.int 6), some (.int x2)], [.int 10], (hM0.set 2 (.inl (0, (List.replicate 312 0).set 47 (x2 - 10)))), 0, 0) _
  exact mEnds.ret rfl
set_option maxRecDepth 100000 in
theorem c13_FFFFv7 (x2 : Int32) (f2 : decide (x2 < 0) = false) (f3 : decide (99 < x2) = false) : ∃ hs', mEnds [] 20 69 (mentry 69 [.ref 1, .int 7, .int x2] hC0) (some (.int 10), hs', 0, 0) := by
  refine ⟨(hC0.set 9 (.inl (0, [10, 10, 10, 10, 10, 10, 10, x2]))), ?_⟩
  refine mEnds.steps 3 (q' := (4, [some (.ref 1), some (.int 7), some (.int x2)], [.int 7, .int 0, .int 7], hC0, 0, 0)) rfl ?_
  refine mEnds.call (d := 19) (y' := 105) (as := [.int 7, .int 0, .int 7]) (q' := (7, [some (.ref 1), some (.int 7), some (.int x2)], [], hC0, 0, 0)) (v := some (.int 1)) (hs' := hC0) (c' := 0) (s' := 0) rfl rfl ?_ ?_
  · refine mEnds.steps 8 (q' := (15, [some (.int 7), some (.int 0), some (.int 7)], [.int 1], hC0, 0, 0)) rfl ?_
    exact mEnds.ret rfl
  show mEnds [] 20 69 (7, [some (.ref 1), some (.int 7), some (.int x2)], [.int 1], hC0, 0, 0) _
  refine mEnds.steps 4 (q' := (14, [some (.ref 1), some (.int 7), some (.int x2)], [.int 99, .int 0, .int x2], hC0, 0, 0)) rfl ?_
  refine mEnds.call (d := 19) (y' := 105) (as := [.int x2, .int 0, .int 99]) (q' := (17, [some (.ref 1), some (.int 7), some (.int x2)], [], hC0, 0, 0)) (v := some (.int 1)) (hs' := hC0) (c' := 0) (s' := 0) rfl rfl ?_ ?_
  · refine mEnds.steps 2 (q' := (2, [some (.int x2), some (.int 0), some (.int 99)], [.int 0, .int x2], hC0, 0, 0)) rfl ?_
    refine mEnds.brF (q' := (5, [some (.int x2), some (.int 0), some (.int 99)], [], hC0, 0, 0)) rfl f2 rfl ?_
    refine mEnds.steps 2 (q' := (7, [some (.int x2), some (.int 0), some (.int 99)], [.int 99, .int x2], hC0, 0, 0)) rfl ?_
    refine mEnds.brF (q' := (10, [some (.int x2), some (.int 0), some (.int 99)], [], hC0, 0, 0)) rfl f3 rfl ?_
    refine mEnds.steps 2 (q' := (15, [some (.int x2), some (.int 0), some (.int 99)], [.int 1], hC0, 0, 0)) rfl ?_
    exact mEnds.ret rfl
  show mEnds [] 20 69 (17, [some (.ref 1), some (.int 7), some (.int x2)], [.int 1], hC0, 0, 0) _
  refine mEnds.steps 6 (q' := (31, [some (.ref 1), some (.int 7), some (.int x2)], [.int x2, .int 7, .ref 9], hC0, 0, 0)) rfl ?_
  refine mEnds.call (d := 19) (y' := 107) (as := [.ref 9, .int 7, .int x2]) (q' := (34, [some (.ref 1), some (.int 7), some (.int x2)], [], hC0, 0, 0)) (v := some (.int 10)) (hs' := (hC0.set 9 (.inl (0, [10, 10, 10, 10, 10, 10, 10, x2])))) (c' := 0) (s' := 0) rfl rfl ?_ ?_
  · refine mEnds.steps 9 (q' := (9, [some (.ref 9), some (.int 7), some (.int x2), some (.int 10)], [.int 10], (hC0.set 9 (.inl (0, [10, 10, 10, 10, 10, 10, 10, x2]))), 0, 0)) rfl ?_
    exact mEnds.ret rfl
  show mEnds [] 20 69 (34, [some (.ref 1), some (.int 7), some (.int x2)], [.int 10], (hC0.set 9 (.inl (0, [10, 10, 10, 10, 10, 10, 10, x2]))), 0, 0) _
  exact mEnds.ret rfl
set_option maxRecDepth 100000 in
theorem m13_FFFFv7 (x2 : Int32) (f2 : decide (x2 < 0) = false) (f3 : decide (99 < x2) = false) : ∃ hs', mEnds [] 20 150 (mentry 150 [.ref 1, .int 7, .int x2] hM0) (some (.int 10), hs', 0, 0) := by
  refine ⟨(hM0.set 2 (.inl (0, (List.replicate 312 0).set 48 (x2 - 10)))), ?_⟩
  refine mEnds.steps 5 (q' := (7, [some (.ref 1), some (.int 7), some (.int x2)], [.long 7, .long 0, .long 7, .ref 1], hM0, 0, 0)) rfl ?_
  refine mEnds.call (d := 19) (y' := 111) (as := [.long 7, .long 0, .long 7]) (q' := (10, [some (.ref 1), some (.int 7), some (.int x2)], [.ref 1], hM0, 0, 0)) (v := some (.int 1)) (hs' := hM0) (c' := 0) (s' := 0) rfl rfl ?_ ?_
  · refine mEnds.steps 10 (q' := (18, [some (.long 7), none, some (.long 0), none, some (.long 7), none], [.int 1], hM0, 0, 0)) rfl ?_
    exact mEnds.ret rfl
  show mEnds [] 20 150 (10, [some (.ref 1), some (.int 7), some (.int x2)], [.int 1, .ref 1], hM0, 0, 0) _
  refine mEnds.steps 5 (q' := (19, [some (.ref 1), some (.int 7), some (.int x2)], [.long 99, .long 0, .long x2.toInt64, .ref 1], hM0, 0, 0)) rfl ?_
  refine mEnds.call (d := 19) (y' := 111) (as := [.long x2.toInt64, .long 0, .long 99]) (q' := (22, [some (.ref 1), some (.int 7), some (.int x2)], [.ref 1], hM0, 0, 0)) (v := some (.int 1)) (hs' := hM0) (c' := 0) (s' := 0) rfl rfl ?_ ?_
  · refine mEnds.steps 3 (q' := (3, [some (.long x2.toInt64), none, some (.long 0), none, some (.long 99), none], [.int (lg_cmp x2.toInt64 0)], hM0, 0, 0)) rfl ?_
    refine mEnds.brF (q' := (6, [some (.long x2.toInt64), none, some (.long 0), none, some (.long 99), none], [], hM0, 0, 0)) rfl (lgc_lt (c := 0) (by decide) f2) rfl ?_
    refine mEnds.steps 3 (q' := (10, [some (.long x2.toInt64), none, some (.long 0), none, some (.long 99), none], [.int (lg_cmp x2.toInt64 99)], hM0, 0, 0)) rfl ?_
    refine mEnds.brF (q' := (13, [some (.long x2.toInt64), none, some (.long 0), none, some (.long 99), none], [], hM0, 0, 0)) rfl (lgc_gt (c := 99) (by decide) f3) rfl ?_
    refine mEnds.steps 2 (q' := (18, [some (.long x2.toInt64), none, some (.long 0), none, some (.long 99), none], [.int 1], hM0, 0, 0)) rfl ?_
    exact mEnds.ret rfl
  show mEnds [] 20 150 (22, [some (.ref 1), some (.int 7), some (.int x2)], [.int 1, .ref 1], hM0, 0, 0) _
  refine mEnds.steps 8 (q' := (37, [some (.ref 1), some (.int 7), some (.int x2)], [.int 10, .int x2, .int 48, .int 1, .ref 1], hM0, 0, 0)) rfl ?_
  refine mEnds.call (d := 19) (y' := 142) (as := [.ref 1, .int 1, .int 48, .int x2, .int 10]) (q' := (40, [some (.ref 1), some (.int 7), some (.int x2)], [], hM0, 0, 0)) (v := some (.int 10)) (hs' := (hM0.set 2 (.inl (0, (List.replicate 312 0).set 48 (x2 - 10))))) (c' := 0) (s' := 0) rfl rfl ?_ ?_
  · refine mEnds.steps 17 (q' := (29, [some (.ref 1), some (.int 1), some (.int 48), some (.int x2), some (.int 10), some (.int 10)], [.int 10], (hM0.set 2 (.inl (0, (List.replicate 312 0).set 48 (x2 - 10)))), 0, 0)) rfl ?_
    exact mEnds.ret rfl
  show mEnds [] 20 150 (40, [some (.ref 1), some (.int 7), some (.int x2)], [.int 10], (hM0.set 2 (.inl (0, (List.replicate 312 0).set 48 (x2 - 10)))), 0, 0) _
  exact mEnds.ret rfl
theorem ok_13 (x1 x2 x3 x4 x5 : Int32) : callOK_13 x1 x2 x3 x4 x5 := by
  cases f0 : decide (x1 < 0) with
  | true =>
    obtain ⟨h1, a1⟩ := c13_T x1 x2 f0
    obtain ⟨h2, a2⟩ := m13_T x1 x2 f0
    exact ⟨_, h1, h2, a1, a2⟩
  | false =>
    cases f1 : decide (7 < x1) with
    | true =>
      obtain ⟨h1, a1⟩ := c13_FT x1 x2 f0 f1
      obtain ⟨h2, a2⟩ := m13_FT x1 x2 f0 f1
      exact ⟨_, h1, h2, a1, a2⟩
    | false =>
      cases f2 : decide (x2 < 0) with
      | true =>
        obtain ⟨h1, a1⟩ := c13_FFT x1 x2 f0 f1 f2
        obtain ⟨h2, a2⟩ := m13_FFT x1 x2 f0 f1 f2
        exact ⟨_, h1, h2, a1, a2⟩
      | false =>
        cases f3 : decide (99 < x2) with
        | true =>
          obtain ⟨h1, a1⟩ := c13_FFFT x1 x2 f0 f1 f2 f3
          obtain ⟨h2, a2⟩ := m13_FFFT x1 x2 f0 f1 f2 f3
          exact ⟨_, h1, h2, a1, a2⟩
        | false =>
          obtain ⟨k4, hk4, ek4⟩ := i32_rng (n := 8) f0 f1 (by decide)
          clear f0 f1
          match k4, hk4, ek4 with
          | 0, _, e =>
            obtain rfl := i32_at (c := 0) e (by decide)
            obtain ⟨h1, a1⟩ := c13_FFFFv0 x2 f2 f3
            obtain ⟨h2, a2⟩ := m13_FFFFv0 x2 f2 f3
            exact ⟨_, h1, h2, a1, a2⟩
          | 1, _, e =>
            obtain rfl := i32_at (c := 1) e (by decide)
            obtain ⟨h1, a1⟩ := c13_FFFFv1 x2 f2 f3
            obtain ⟨h2, a2⟩ := m13_FFFFv1 x2 f2 f3
            exact ⟨_, h1, h2, a1, a2⟩
          | 2, _, e =>
            obtain rfl := i32_at (c := 2) e (by decide)
            obtain ⟨h1, a1⟩ := c13_FFFFv2 x2 f2 f3
            obtain ⟨h2, a2⟩ := m13_FFFFv2 x2 f2 f3
            exact ⟨_, h1, h2, a1, a2⟩
          | 3, _, e =>
            obtain rfl := i32_at (c := 3) e (by decide)
            obtain ⟨h1, a1⟩ := c13_FFFFv3 x2 f2 f3
            obtain ⟨h2, a2⟩ := m13_FFFFv3 x2 f2 f3
            exact ⟨_, h1, h2, a1, a2⟩
          | 4, _, e =>
            obtain rfl := i32_at (c := 4) e (by decide)
            obtain ⟨h1, a1⟩ := c13_FFFFv4 x2 f2 f3
            obtain ⟨h2, a2⟩ := m13_FFFFv4 x2 f2 f3
            exact ⟨_, h1, h2, a1, a2⟩
          | 5, _, e =>
            obtain rfl := i32_at (c := 5) e (by decide)
            obtain ⟨h1, a1⟩ := c13_FFFFv5 x2 f2 f3
            obtain ⟨h2, a2⟩ := m13_FFFFv5 x2 f2 f3
            exact ⟨_, h1, h2, a1, a2⟩
          | 6, _, e =>
            obtain rfl := i32_at (c := 6) e (by decide)
            obtain ⟨h1, a1⟩ := c13_FFFFv6 x2 f2 f3
            obtain ⟨h2, a2⟩ := m13_FFFFv6 x2 f2 f3
            exact ⟨_, h1, h2, a1, a2⟩
          | 7, _, e =>
            obtain rfl := i32_at (c := 7) e (by decide)
            obtain ⟨h1, a1⟩ := c13_FFFFv7 x2 f2 f3
            obtain ⟨h2, a2⟩ := m13_FFFFv7 x2 f2 f3
            exact ⟨_, h1, h2, a1, a2⟩
          | k + 8, h, _ => exact absurd h (by omega)
set_option maxRecDepth 100000 in
theorem c16_T (x1 x2 x3 : Int32) (f0 : decide (x1 < 0) = true) : ∃ hs', mEnds [] 20 73 (mentry 73 [.ref 1, .int x1, .int x2, .int x3] hC0) (some (.int (-1)), hs', 0, 0) := by
  refine ⟨hC0, ?_⟩
  refine mEnds.steps 3 (q' := (5, [some (.ref 1), some (.int x1), some (.int x2), some (.int x3), none], [.int x1, .ref 2], hC0, 0, 0)) rfl ?_
  refine mEnds.call (d := 19) (y' := 8) (as := [.ref 2, .int x1]) (q' := (8, [some (.ref 1), some (.int x1), some (.int x2), some (.int x3), none], [], hC0, 0, 0)) (v := some (.int 0)) (hs' := hC0) (c' := 0) (s' := 0) rfl rfl ?_ ?_
  · refine mEnds.steps 1 (q' := (1, [some (.ref 2), some (.int x1)], [.int x1], hC0, 0, 0)) rfl ?_
    refine mEnds.brT (q' := (16, [some (.ref 2), some (.int x1)], [], hC0, 0, 0)) rfl f0 rfl ?_
    refine mEnds.steps 1 (q' := (17, [some (.ref 2), some (.int x1)], [.int 0], hC0, 0, 0)) rfl ?_
    exact mEnds.ret rfl
  show mEnds [] 20 73 (8, [some (.ref 1), some (.int x1), some (.int x2), some (.int x3), none], [.int 0], hC0, 0, 0) _
  refine mEnds.steps 2 (q' := (31, [some (.ref 1), some (.int x1), some (.int x2), some (.int x3), none], [.int (-1)], hC0, 0, 0)) rfl ?_
  exact mEnds.ret rfl
set_option maxRecDepth 100000 in
theorem m16_T (x1 x2 x3 : Int32) (f0 : decide (x1 < 0) = true) : ∃ hs', mEnds [] 20 155 (mentry 155 [.ref 1, .int x1, .int x2, .int x3] hM0) (some (.int (-1)), hs', 0, 0) := by
  refine ⟨hM0, ?_⟩
  refine mEnds.steps 2 (q' := (2, [some (.ref 1), some (.int x1), some (.int x2), some (.int x3)], [.int x1, .ref 1], hM0, 0, 0)) rfl ?_
  refine mEnds.call (d := 19) (y' := 126) (as := [.ref 1, .int x1]) (q' := (5, [some (.ref 1), some (.int x1), some (.int x2), some (.int x3)], [], hM0, 0, 0)) (v := some (.int 0)) (hs' := hM0) (c' := 0) (s' := 0) rfl rfl ?_ ?_
  · refine mEnds.steps 8 (q' := (10, [some (.ref 1), some (.int x1)], [.long (-1), .long 0, .long x1.toInt64], hM0, 0, 0)) rfl ?_
    refine mEnds.call (d := 18) (y' := 111) (as := [.long x1.toInt64, .long 0, .long (-1)]) (q' := (13, [some (.ref 1), some (.int x1)], [], hM0, 0, 0)) (v := some (.int 0)) (hs' := hM0) (c' := 0) (s' := 0) rfl rfl ?_ ?_
    · refine mEnds.steps 3 (q' := (3, [some (.long x1.toInt64), none, some (.long 0), none, some (.long (-1)), none], [.int (lg_cmp x1.toInt64 0)], hM0, 0, 0)) rfl ?_
      refine mEnds.brT (q' := (17, [some (.long x1.toInt64), none, some (.long 0), none, some (.long (-1)), none], [], hM0, 0, 0)) rfl (lgc_lt (c := 0) (by decide) f0) rfl ?_
      refine mEnds.steps 1 (q' := (18, [some (.long x1.toInt64), none, some (.long 0), none, some (.long (-1)), none], [.int 0], hM0, 0, 0)) rfl ?_
      exact mEnds.ret rfl
    show mEnds [] 19 126 (13, [some (.ref 1), some (.int x1)], [.int 0], hM0, 0, 0) _
    exact mEnds.ret rfl
  show mEnds [] 20 155 (5, [some (.ref 1), some (.int x1), some (.int x2), some (.int x3)], [.int 0], hM0, 0, 0) _
  refine mEnds.steps 2 (q' := (31, [some (.ref 1), some (.int x1), some (.int x2), some (.int x3)], [.int (-1)], hM0, 0, 0)) rfl ?_
  exact mEnds.ret rfl
set_option maxRecDepth 100000 in
theorem c16_F (x1 x2 x3 : Int32) (f0 : decide (x1 < 0) = false) : ∃ hs', mEnds [] 20 73 (mentry 73 [.ref 1, .int x1, .int x2, .int x3] hC0) (some (.int (-1)), hs', 0, 0) := by
  refine ⟨hC0, ?_⟩
  refine mEnds.steps 3 (q' := (5, [some (.ref 1), some (.int x1), some (.int x2), some (.int x3), none], [.int x1, .ref 2], hC0, 0, 0)) rfl ?_
  refine mEnds.call (d := 19) (y' := 8) (as := [.ref 2, .int x1]) (q' := (8, [some (.ref 1), some (.int x1), some (.int x2), some (.int x3), none], [], hC0, 0, 0)) (v := some (.int 0)) (hs' := hC0) (c' := 0) (s' := 0) rfl rfl ?_ ?_
  · refine mEnds.steps 1 (q' := (1, [some (.ref 2), some (.int x1)], [.int x1], hC0, 0, 0)) rfl ?_
    refine mEnds.brF (q' := (4, [some (.ref 2), some (.int x1)], [], hC0, 0, 0)) rfl f0 rfl ?_
    refine mEnds.steps 3 (q' := (9, [some (.ref 2), some (.int x1)], [.int 0, .int x1], hC0, 0, 0)) rfl ?_
    refine mEnds.brT (q' := (16, [some (.ref 2), some (.int x1)], [], hC0, 0, 0)) rfl (mtk_ge f0) rfl ?_
    refine mEnds.steps 1 (q' := (17, [some (.ref 2), some (.int x1)], [.int 0], hC0, 0, 0)) rfl ?_
    exact mEnds.ret rfl
  show mEnds [] 20 73 (8, [some (.ref 1), some (.int x1), some (.int x2), some (.int x3), none], [.int 0], hC0, 0, 0) _
  refine mEnds.steps 2 (q' := (31, [some (.ref 1), some (.int x1), some (.int x2), some (.int x3), none], [.int (-1)], hC0, 0, 0)) rfl ?_
  exact mEnds.ret rfl
set_option maxRecDepth 100000 in
theorem m16_F (x1 x2 x3 : Int32) (f0 : decide (x1 < 0) = false) : ∃ hs', mEnds [] 20 155 (mentry 155 [.ref 1, .int x1, .int x2, .int x3] hM0) (some (.int (-1)), hs', 0, 0) := by
  refine ⟨hM0, ?_⟩
  refine mEnds.steps 2 (q' := (2, [some (.ref 1), some (.int x1), some (.int x2), some (.int x3)], [.int x1, .ref 1], hM0, 0, 0)) rfl ?_
  refine mEnds.call (d := 19) (y' := 126) (as := [.ref 1, .int x1]) (q' := (5, [some (.ref 1), some (.int x1), some (.int x2), some (.int x3)], [], hM0, 0, 0)) (v := some (.int 0)) (hs' := hM0) (c' := 0) (s' := 0) rfl rfl ?_ ?_
  · refine mEnds.steps 8 (q' := (10, [some (.ref 1), some (.int x1)], [.long (-1), .long 0, .long x1.toInt64], hM0, 0, 0)) rfl ?_
    refine mEnds.call (d := 18) (y' := 111) (as := [.long x1.toInt64, .long 0, .long (-1)]) (q' := (13, [some (.ref 1), some (.int x1)], [], hM0, 0, 0)) (v := some (.int 0)) (hs' := hM0) (c' := 0) (s' := 0) rfl rfl ?_ ?_
    · refine mEnds.steps 3 (q' := (3, [some (.long x1.toInt64), none, some (.long 0), none, some (.long (-1)), none], [.int (lg_cmp x1.toInt64 0)], hM0, 0, 0)) rfl ?_
      refine mEnds.brF (q' := (6, [some (.long x1.toInt64), none, some (.long 0), none, some (.long (-1)), none], [], hM0, 0, 0)) rfl (lgc_lt (c := 0) (by decide) f0) rfl ?_
      refine mEnds.steps 3 (q' := (10, [some (.long x1.toInt64), none, some (.long 0), none, some (.long (-1)), none], [.int (lg_cmp x1.toInt64 (-1))], hM0, 0, 0)) rfl ?_
      refine mEnds.brT (q' := (17, [some (.long x1.toInt64), none, some (.long 0), none, some (.long (-1)), none], [], hM0, 0, 0)) rfl (lgc_gt (c := (-1)) (by decide) (ltF_gtT f0 (by decide))) rfl ?_
      refine mEnds.steps 1 (q' := (18, [some (.long x1.toInt64), none, some (.long 0), none, some (.long (-1)), none], [.int 0], hM0, 0, 0)) rfl ?_
      exact mEnds.ret rfl
    show mEnds [] 19 126 (13, [some (.ref 1), some (.int x1)], [.int 0], hM0, 0, 0) _
    exact mEnds.ret rfl
  show mEnds [] 20 155 (5, [some (.ref 1), some (.int x1), some (.int x2), some (.int x3)], [.int 0], hM0, 0, 0) _
  refine mEnds.steps 2 (q' := (31, [some (.ref 1), some (.int x1), some (.int x2), some (.int x3)], [.int (-1)], hM0, 0, 0)) rfl ?_
  exact mEnds.ret rfl
theorem ok_16 (x1 x2 x3 x4 x5 : Int32) : callOK_16 x1 x2 x3 x4 x5 := by
  cases f0 : decide (x1 < 0) with
  | true =>
    obtain ⟨h1, a1⟩ := c16_T x1 x2 x3 f0
    obtain ⟨h2, a2⟩ := m16_T x1 x2 x3 f0
    exact ⟨_, h1, h2, a1, a2⟩
  | false =>
    obtain ⟨h1, a1⟩ := c16_F x1 x2 x3 f0
    obtain ⟨h2, a2⟩ := m16_F x1 x2 x3 f0
    exact ⟨_, h1, h2, a1, a2⟩
set_option maxRecDepth 100000 in
theorem c17_T (x1 x2 : Int32) (f0 : decide (x1 < 0) = true) : ∃ hs', mEnds [] 20 74 (mentry 74 [.ref 1, .int x1, .int x2] hC0) (some (.int (-1)), hs', 0, 0) := by
  refine ⟨hC0, ?_⟩
  refine mEnds.steps 3 (q' := (5, [some (.ref 1), some (.int x1), some (.int x2), none, none], [.int x1, .ref 2], hC0, 0, 0)) rfl ?_
  refine mEnds.call (d := 19) (y' := 8) (as := [.ref 2, .int x1]) (q' := (8, [some (.ref 1), some (.int x1), some (.int x2), none, none], [], hC0, 0, 0)) (v := some (.int 0)) (hs' := hC0) (c' := 0) (s' := 0) rfl rfl ?_ ?_
  · refine mEnds.steps 1 (q' := (1, [some (.ref 2), some (.int x1)], [.int x1], hC0, 0, 0)) rfl ?_
    refine mEnds.brT (q' := (16, [some (.ref 2), some (.int x1)], [], hC0, 0, 0)) rfl f0 rfl ?_
    refine mEnds.steps 1 (q' := (17, [some (.ref 2), some (.int x1)], [.int 0], hC0, 0, 0)) rfl ?_
    exact mEnds.ret rfl
  show mEnds [] 20 74 (8, [some (.ref 1), some (.int x1), some (.int x2), none, none], [.int 0], hC0, 0, 0) _
  refine mEnds.steps 2 (q' := (22, [some (.ref 1), some (.int x1), some (.int x2), none, none], [.int (-1)], hC0, 0, 0)) rfl ?_
  exact mEnds.ret rfl
set_option maxRecDepth 100000 in
theorem m17_T (x1 x2 : Int32) (f0 : decide (x1 < 0) = true) : ∃ hs', mEnds [] 20 156 (mentry 156 [.ref 1, .int x1, .int x2] hM0) (some (.int (-1)), hs', 0, 0) := by
  refine ⟨hM0, ?_⟩
  refine mEnds.steps 2 (q' := (2, [some (.ref 1), some (.int x1), some (.int x2), none], [.int x1, .ref 1], hM0, 0, 0)) rfl ?_
  refine mEnds.call (d := 19) (y' := 126) (as := [.ref 1, .int x1]) (q' := (5, [some (.ref 1), some (.int x1), some (.int x2), none], [], hM0, 0, 0)) (v := some (.int 0)) (hs' := hM0) (c' := 0) (s' := 0) rfl rfl ?_ ?_
  · refine mEnds.steps 8 (q' := (10, [some (.ref 1), some (.int x1)], [.long (-1), .long 0, .long x1.toInt64], hM0, 0, 0)) rfl ?_
    refine mEnds.call (d := 18) (y' := 111) (as := [.long x1.toInt64, .long 0, .long (-1)]) (q' := (13, [some (.ref 1), some (.int x1)], [], hM0, 0, 0)) (v := some (.int 0)) (hs' := hM0) (c' := 0) (s' := 0) rfl rfl ?_ ?_
    · refine mEnds.steps 3 (q' := (3, [some (.long x1.toInt64), none, some (.long 0), none, some (.long (-1)), none], [.int (lg_cmp x1.toInt64 0)], hM0, 0, 0)) rfl ?_
      refine mEnds.brT (q' := (17, [some (.long x1.toInt64), none, some (.long 0), none, some (.long (-1)), none], [], hM0, 0, 0)) rfl (lgc_lt (c := 0) (by decide) f0) rfl ?_
      refine mEnds.steps 1 (q' := (18, [some (.long x1.toInt64), none, some (.long 0), none, some (.long (-1)), none], [.int 0], hM0, 0, 0)) rfl ?_
      exact mEnds.ret rfl
    show mEnds [] 19 126 (13, [some (.ref 1), some (.int x1)], [.int 0], hM0, 0, 0) _
    exact mEnds.ret rfl
  show mEnds [] 20 156 (5, [some (.ref 1), some (.int x1), some (.int x2), none], [.int 0], hM0, 0, 0) _
  refine mEnds.steps 2 (q' := (21, [some (.ref 1), some (.int x1), some (.int x2), none], [.int (-1)], hM0, 0, 0)) rfl ?_
  exact mEnds.ret rfl
set_option maxRecDepth 100000 in
theorem c17_F (x1 x2 : Int32) (f0 : decide (x1 < 0) = false) : ∃ hs', mEnds [] 20 74 (mentry 74 [.ref 1, .int x1, .int x2] hC0) (some (.int (-1)), hs', 0, 0) := by
  refine ⟨hC0, ?_⟩
  refine mEnds.steps 3 (q' := (5, [some (.ref 1), some (.int x1), some (.int x2), none, none], [.int x1, .ref 2], hC0, 0, 0)) rfl ?_
  refine mEnds.call (d := 19) (y' := 8) (as := [.ref 2, .int x1]) (q' := (8, [some (.ref 1), some (.int x1), some (.int x2), none, none], [], hC0, 0, 0)) (v := some (.int 0)) (hs' := hC0) (c' := 0) (s' := 0) rfl rfl ?_ ?_
  · refine mEnds.steps 1 (q' := (1, [some (.ref 2), some (.int x1)], [.int x1], hC0, 0, 0)) rfl ?_
    refine mEnds.brF (q' := (4, [some (.ref 2), some (.int x1)], [], hC0, 0, 0)) rfl f0 rfl ?_
    refine mEnds.steps 3 (q' := (9, [some (.ref 2), some (.int x1)], [.int 0, .int x1], hC0, 0, 0)) rfl ?_
    refine mEnds.brT (q' := (16, [some (.ref 2), some (.int x1)], [], hC0, 0, 0)) rfl (mtk_ge f0) rfl ?_
    refine mEnds.steps 1 (q' := (17, [some (.ref 2), some (.int x1)], [.int 0], hC0, 0, 0)) rfl ?_
    exact mEnds.ret rfl
  show mEnds [] 20 74 (8, [some (.ref 1), some (.int x1), some (.int x2), none, none], [.int 0], hC0, 0, 0) _
  refine mEnds.steps 2 (q' := (22, [some (.ref 1), some (.int x1), some (.int x2), none, none], [.int (-1)], hC0, 0, 0)) rfl ?_
  exact mEnds.ret rfl
set_option maxRecDepth 100000 in
theorem m17_F (x1 x2 : Int32) (f0 : decide (x1 < 0) = false) : ∃ hs', mEnds [] 20 156 (mentry 156 [.ref 1, .int x1, .int x2] hM0) (some (.int (-1)), hs', 0, 0) := by
  refine ⟨hM0, ?_⟩
  refine mEnds.steps 2 (q' := (2, [some (.ref 1), some (.int x1), some (.int x2), none], [.int x1, .ref 1], hM0, 0, 0)) rfl ?_
  refine mEnds.call (d := 19) (y' := 126) (as := [.ref 1, .int x1]) (q' := (5, [some (.ref 1), some (.int x1), some (.int x2), none], [], hM0, 0, 0)) (v := some (.int 0)) (hs' := hM0) (c' := 0) (s' := 0) rfl rfl ?_ ?_
  · refine mEnds.steps 8 (q' := (10, [some (.ref 1), some (.int x1)], [.long (-1), .long 0, .long x1.toInt64], hM0, 0, 0)) rfl ?_
    refine mEnds.call (d := 18) (y' := 111) (as := [.long x1.toInt64, .long 0, .long (-1)]) (q' := (13, [some (.ref 1), some (.int x1)], [], hM0, 0, 0)) (v := some (.int 0)) (hs' := hM0) (c' := 0) (s' := 0) rfl rfl ?_ ?_
    · refine mEnds.steps 3 (q' := (3, [some (.long x1.toInt64), none, some (.long 0), none, some (.long (-1)), none], [.int (lg_cmp x1.toInt64 0)], hM0, 0, 0)) rfl ?_
      refine mEnds.brF (q' := (6, [some (.long x1.toInt64), none, some (.long 0), none, some (.long (-1)), none], [], hM0, 0, 0)) rfl (lgc_lt (c := 0) (by decide) f0) rfl ?_
      refine mEnds.steps 3 (q' := (10, [some (.long x1.toInt64), none, some (.long 0), none, some (.long (-1)), none], [.int (lg_cmp x1.toInt64 (-1))], hM0, 0, 0)) rfl ?_
      refine mEnds.brT (q' := (17, [some (.long x1.toInt64), none, some (.long 0), none, some (.long (-1)), none], [], hM0, 0, 0)) rfl (lgc_gt (c := (-1)) (by decide) (ltF_gtT f0 (by decide))) rfl ?_
      refine mEnds.steps 1 (q' := (18, [some (.long x1.toInt64), none, some (.long 0), none, some (.long (-1)), none], [.int 0], hM0, 0, 0)) rfl ?_
      exact mEnds.ret rfl
    show mEnds [] 19 126 (13, [some (.ref 1), some (.int x1)], [.int 0], hM0, 0, 0) _
    exact mEnds.ret rfl
  show mEnds [] 20 156 (5, [some (.ref 1), some (.int x1), some (.int x2), none], [.int 0], hM0, 0, 0) _
  refine mEnds.steps 2 (q' := (21, [some (.ref 1), some (.int x1), some (.int x2), none], [.int (-1)], hM0, 0, 0)) rfl ?_
  exact mEnds.ret rfl
theorem ok_17 (x1 x2 x3 x4 x5 : Int32) : callOK_17 x1 x2 x3 x4 x5 := by
  cases f0 : decide (x1 < 0) with
  | true =>
    obtain ⟨h1, a1⟩ := c17_T x1 x2 f0
    obtain ⟨h2, a2⟩ := m17_T x1 x2 f0
    exact ⟨_, h1, h2, a1, a2⟩
  | false =>
    obtain ⟨h1, a1⟩ := c17_F x1 x2 f0
    obtain ⟨h2, a2⟩ := m17_F x1 x2 f0
    exact ⟨_, h1, h2, a1, a2⟩
set_option maxRecDepth 100000 in
theorem c19_T (x1 x2 x3 : Int32) (f0 : decide (x1 < 0) = true) : ∃ hs', mEnds [] 20 76 (mentry 76 [.ref 1, .int x1, .int x2, .int x3] hC0) (some (.int (-1)), hs', 0, 0) := by
  refine ⟨hC0, ?_⟩
  refine mEnds.steps 3 (q' := (5, [some (.ref 1), some (.int x1), some (.int x2), some (.int x3), none, none], [.int x1, .ref 2], hC0, 0, 0)) rfl ?_
  refine mEnds.call (d := 19) (y' := 8) (as := [.ref 2, .int x1]) (q' := (8, [some (.ref 1), some (.int x1), some (.int x2), some (.int x3), none, none], [], hC0, 0, 0)) (v := some (.int 0)) (hs' := hC0) (c' := 0) (s' := 0) rfl rfl ?_ ?_
  · refine mEnds.steps 1 (q' := (1, [some (.ref 2), some (.int x1)], [.int x1], hC0, 0, 0)) rfl ?_
    refine mEnds.brT (q' := (16, [some (.ref 2), some (.int x1)], [], hC0, 0, 0)) rfl f0 rfl ?_
    refine mEnds.steps 1 (q' := (17, [some (.ref 2), some (.int x1)], [.int 0], hC0, 0, 0)) rfl ?_
    exact mEnds.ret rfl
  show mEnds [] 20 76 (8, [some (.ref 1), some (.int x1), some (.int x2), some (.int x3), none, none], [.int 0], hC0, 0, 0) _
  refine mEnds.steps 2 (q' := (32, [some (.ref 1), some (.int x1), some (.int x2), some (.int x3), none, none], [.int (-1)], hC0, 0, 0)) rfl ?_
  exact mEnds.ret rfl
set_option maxRecDepth 100000 in
theorem m19_T (x1 x2 x3 : Int32) (f0 : decide (x1 < 0) = true) : ∃ hs', mEnds [] 20 159 (mentry 159 [.ref 1, .int x1, .int x2, .int x3] hM0) (some (.int (-1)), hs', 0, 0) := by
  refine ⟨hM0, ?_⟩
  refine mEnds.steps 2 (q' := (2, [some (.ref 1), some (.int x1), some (.int x2), some (.int x3), none], [.int x1, .ref 1], hM0, 0, 0)) rfl ?_
  refine mEnds.call (d := 19) (y' := 126) (as := [.ref 1, .int x1]) (q' := (5, [some (.ref 1), some (.int x1), some (.int x2), some (.int x3), none], [], hM0, 0, 0)) (v := some (.int 0)) (hs' := hM0) (c' := 0) (s' := 0) rfl rfl ?_ ?_
  · refine mEnds.steps 8 (q' := (10, [some (.ref 1), some (.int x1)], [.long (-1), .long 0, .long x1.toInt64], hM0, 0, 0)) rfl ?_
    refine mEnds.call (d := 18) (y' := 111) (as := [.long x1.toInt64, .long 0, .long (-1)]) (q' := (13, [some (.ref 1), some (.int x1)], [], hM0, 0, 0)) (v := some (.int 0)) (hs' := hM0) (c' := 0) (s' := 0) rfl rfl ?_ ?_
    · refine mEnds.steps 3 (q' := (3, [some (.long x1.toInt64), none, some (.long 0), none, some (.long (-1)), none], [.int (lg_cmp x1.toInt64 0)], hM0, 0, 0)) rfl ?_
      refine mEnds.brT (q' := (17, [some (.long x1.toInt64), none, some (.long 0), none, some (.long (-1)), none], [], hM0, 0, 0)) rfl (lgc_lt (c := 0) (by decide) f0) rfl ?_
      refine mEnds.steps 1 (q' := (18, [some (.long x1.toInt64), none, some (.long 0), none, some (.long (-1)), none], [.int 0], hM0, 0, 0)) rfl ?_
      exact mEnds.ret rfl
    show mEnds [] 19 126 (13, [some (.ref 1), some (.int x1)], [.int 0], hM0, 0, 0) _
    exact mEnds.ret rfl
  show mEnds [] 20 159 (5, [some (.ref 1), some (.int x1), some (.int x2), some (.int x3), none], [.int 0], hM0, 0, 0) _
  refine mEnds.steps 2 (q' := (33, [some (.ref 1), some (.int x1), some (.int x2), some (.int x3), none], [.int (-1)], hM0, 0, 0)) rfl ?_
  exact mEnds.ret rfl
set_option maxRecDepth 100000 in
theorem c19_F (x1 x2 x3 : Int32) (f0 : decide (x1 < 0) = false) : ∃ hs', mEnds [] 20 76 (mentry 76 [.ref 1, .int x1, .int x2, .int x3] hC0) (some (.int (-1)), hs', 0, 0) := by
  refine ⟨hC0, ?_⟩
  refine mEnds.steps 3 (q' := (5, [some (.ref 1), some (.int x1), some (.int x2), some (.int x3), none, none], [.int x1, .ref 2], hC0, 0, 0)) rfl ?_
  refine mEnds.call (d := 19) (y' := 8) (as := [.ref 2, .int x1]) (q' := (8, [some (.ref 1), some (.int x1), some (.int x2), some (.int x3), none, none], [], hC0, 0, 0)) (v := some (.int 0)) (hs' := hC0) (c' := 0) (s' := 0) rfl rfl ?_ ?_
  · refine mEnds.steps 1 (q' := (1, [some (.ref 2), some (.int x1)], [.int x1], hC0, 0, 0)) rfl ?_
    refine mEnds.brF (q' := (4, [some (.ref 2), some (.int x1)], [], hC0, 0, 0)) rfl f0 rfl ?_
    refine mEnds.steps 3 (q' := (9, [some (.ref 2), some (.int x1)], [.int 0, .int x1], hC0, 0, 0)) rfl ?_
    refine mEnds.brT (q' := (16, [some (.ref 2), some (.int x1)], [], hC0, 0, 0)) rfl (mtk_ge f0) rfl ?_
    refine mEnds.steps 1 (q' := (17, [some (.ref 2), some (.int x1)], [.int 0], hC0, 0, 0)) rfl ?_
    exact mEnds.ret rfl
  show mEnds [] 20 76 (8, [some (.ref 1), some (.int x1), some (.int x2), some (.int x3), none, none], [.int 0], hC0, 0, 0) _
  refine mEnds.steps 2 (q' := (32, [some (.ref 1), some (.int x1), some (.int x2), some (.int x3), none, none], [.int (-1)], hC0, 0, 0)) rfl ?_
  exact mEnds.ret rfl
set_option maxRecDepth 100000 in
theorem m19_F (x1 x2 x3 : Int32) (f0 : decide (x1 < 0) = false) : ∃ hs', mEnds [] 20 159 (mentry 159 [.ref 1, .int x1, .int x2, .int x3] hM0) (some (.int (-1)), hs', 0, 0) := by
  refine ⟨hM0, ?_⟩
  refine mEnds.steps 2 (q' := (2, [some (.ref 1), some (.int x1), some (.int x2), some (.int x3), none], [.int x1, .ref 1], hM0, 0, 0)) rfl ?_
  refine mEnds.call (d := 19) (y' := 126) (as := [.ref 1, .int x1]) (q' := (5, [some (.ref 1), some (.int x1), some (.int x2), some (.int x3), none], [], hM0, 0, 0)) (v := some (.int 0)) (hs' := hM0) (c' := 0) (s' := 0) rfl rfl ?_ ?_
  · refine mEnds.steps 8 (q' := (10, [some (.ref 1), some (.int x1)], [.long (-1), .long 0, .long x1.toInt64], hM0, 0, 0)) rfl ?_
    refine mEnds.call (d := 18) (y' := 111) (as := [.long x1.toInt64, .long 0, .long (-1)]) (q' := (13, [some (.ref 1), some (.int x1)], [], hM0, 0, 0)) (v := some (.int 0)) (hs' := hM0) (c' := 0) (s' := 0) rfl rfl ?_ ?_
    · refine mEnds.steps 3 (q' := (3, [some (.long x1.toInt64), none, some (.long 0), none, some (.long (-1)), none], [.int (lg_cmp x1.toInt64 0)], hM0, 0, 0)) rfl ?_
      refine mEnds.brF (q' := (6, [some (.long x1.toInt64), none, some (.long 0), none, some (.long (-1)), none], [], hM0, 0, 0)) rfl (lgc_lt (c := 0) (by decide) f0) rfl ?_
      refine mEnds.steps 3 (q' := (10, [some (.long x1.toInt64), none, some (.long 0), none, some (.long (-1)), none], [.int (lg_cmp x1.toInt64 (-1))], hM0, 0, 0)) rfl ?_
      refine mEnds.brT (q' := (17, [some (.long x1.toInt64), none, some (.long 0), none, some (.long (-1)), none], [], hM0, 0, 0)) rfl (lgc_gt (c := (-1)) (by decide) (ltF_gtT f0 (by decide))) rfl ?_
      refine mEnds.steps 1 (q' := (18, [some (.long x1.toInt64), none, some (.long 0), none, some (.long (-1)), none], [.int 0], hM0, 0, 0)) rfl ?_
      exact mEnds.ret rfl
    show mEnds [] 19 126 (13, [some (.ref 1), some (.int x1)], [.int 0], hM0, 0, 0) _
    exact mEnds.ret rfl
  show mEnds [] 20 159 (5, [some (.ref 1), some (.int x1), some (.int x2), some (.int x3), none], [.int 0], hM0, 0, 0) _
  refine mEnds.steps 2 (q' := (33, [some (.ref 1), some (.int x1), some (.int x2), some (.int x3), none], [.int (-1)], hM0, 0, 0)) rfl ?_
  exact mEnds.ret rfl
theorem ok_19 (x1 x2 x3 x4 x5 : Int32) : callOK_19 x1 x2 x3 x4 x5 := by
  cases f0 : decide (x1 < 0) with
  | true =>
    obtain ⟨h1, a1⟩ := c19_T x1 x2 x3 f0
    obtain ⟨h2, a2⟩ := m19_T x1 x2 x3 f0
    exact ⟨_, h1, h2, a1, a2⟩
  | false =>
    obtain ⟨h1, a1⟩ := c19_F x1 x2 x3 f0
    obtain ⟨h2, a2⟩ := m19_F x1 x2 x3 f0
    exact ⟨_, h1, h2, a1, a2⟩
set_option maxRecDepth 100000 in
theorem c20_T (x1 x2 x3 : Int32) (f0 : decide (x1 < 0) = true) : ∃ hs', mEnds [] 20 77 (mentry 77 [.ref 1, .int x1, .int x2, .int x3] hC0) (some (.int (-1)), hs', 0, 0) := by
  refine ⟨hC0, ?_⟩
  refine mEnds.steps 3 (q' := (5, [some (.ref 1), some (.int x1), some (.int x2), some (.int x3), none, none, none, none, none], [.int x1, .ref 2], hC0, 0, 0)) rfl ?_
  refine mEnds.call (d := 19) (y' := 8) (as := [.ref 2, .int x1]) (q' := (8, [some (.ref 1), some (.int x1), some (.int x2), some (.int x3), none, none, none, none, none], [], hC0, 0, 0)) (v := some (.int 0)) (hs' := hC0) (c' := 0) (s' := 0) rfl rfl ?_ ?_
  · refine mEnds.steps 1 (q' := (1, [some (.ref 2), some (.int x1)], [.int x1], hC0, 0, 0)) rfl ?_
    refine mEnds.brT (q' := (16, [some (.ref 2), some (.int x1)], [], hC0, 0, 0)) rfl f0 rfl ?_
    refine mEnds.steps 1 (q' := (17, [some (.ref 2), some (.int x1)], [.int 0], hC0, 0, 0)) rfl ?_
    exact mEnds.ret rfl
  show mEnds [] 20 77 (8, [some (.ref 1), some (.int x1), some (.int x2), some (.int x3), none, none, none, none, none], [.int 0], hC0, 0, 0) _
  refine mEnds.steps 2 (q' := (31, [some (.ref 1), some (.int x1), some (.int x2), some (.int x3), none, none, none, none, none], [.int (-1)], hC0, 0, 0)) rfl ?_
  exact mEnds.ret rfl
set_option maxRecDepth 100000 in
theorem m20_T (x1 x2 x3 : Int32) (f0 : decide (x1 < 0) = true) : ∃ hs', mEnds [] 20 160 (mentry 160 [.ref 1, .int x1, .int x2, .int x3] hM0) (some (.int (-1)), hs', 0, 0) := by
  refine ⟨hM0, ?_⟩
  refine mEnds.steps 2 (q' := (2, [some (.ref 1), some (.int x1), some (.int x2), some (.int x3), none, none, none, none], [.int x1, .ref 1], hM0, 0, 0)) rfl ?_
  refine mEnds.call (d := 19) (y' := 126) (as := [.ref 1, .int x1]) (q' := (5, [some (.ref 1), some (.int x1), some (.int x2), some (.int x3), none, none, none, none], [], hM0, 0, 0)) (v := some (.int 0)) (hs' := hM0) (c' := 0) (s' := 0) rfl rfl ?_ ?_
  · refine mEnds.steps 8 (q' := (10, [some (.ref 1), some (.int x1)], [.long (-1), .long 0, .long x1.toInt64], hM0, 0, 0)) rfl ?_
    refine mEnds.call (d := 18) (y' := 111) (as := [.long x1.toInt64, .long 0, .long (-1)]) (q' := (13, [some (.ref 1), some (.int x1)], [], hM0, 0, 0)) (v := some (.int 0)) (hs' := hM0) (c' := 0) (s' := 0) rfl rfl ?_ ?_
    · refine mEnds.steps 3 (q' := (3, [some (.long x1.toInt64), none, some (.long 0), none, some (.long (-1)), none], [.int (lg_cmp x1.toInt64 0)], hM0, 0, 0)) rfl ?_
      refine mEnds.brT (q' := (17, [some (.long x1.toInt64), none, some (.long 0), none, some (.long (-1)), none], [], hM0, 0, 0)) rfl (lgc_lt (c := 0) (by decide) f0) rfl ?_
      refine mEnds.steps 1 (q' := (18, [some (.long x1.toInt64), none, some (.long 0), none, some (.long (-1)), none], [.int 0], hM0, 0, 0)) rfl ?_
      exact mEnds.ret rfl
    show mEnds [] 19 126 (13, [some (.ref 1), some (.int x1)], [.int 0], hM0, 0, 0) _
    exact mEnds.ret rfl
  show mEnds [] 20 160 (5, [some (.ref 1), some (.int x1), some (.int x2), some (.int x3), none, none, none, none], [.int 0], hM0, 0, 0) _
  refine mEnds.steps 2 (q' := (31, [some (.ref 1), some (.int x1), some (.int x2), some (.int x3), none, none, none, none], [.int (-1)], hM0, 0, 0)) rfl ?_
  exact mEnds.ret rfl
set_option maxRecDepth 100000 in
theorem c20_F (x1 x2 x3 : Int32) (f0 : decide (x1 < 0) = false) : ∃ hs', mEnds [] 20 77 (mentry 77 [.ref 1, .int x1, .int x2, .int x3] hC0) (some (.int (-1)), hs', 0, 0) := by
  refine ⟨hC0, ?_⟩
  refine mEnds.steps 3 (q' := (5, [some (.ref 1), some (.int x1), some (.int x2), some (.int x3), none, none, none, none, none], [.int x1, .ref 2], hC0, 0, 0)) rfl ?_
  refine mEnds.call (d := 19) (y' := 8) (as := [.ref 2, .int x1]) (q' := (8, [some (.ref 1), some (.int x1), some (.int x2), some (.int x3), none, none, none, none, none], [], hC0, 0, 0)) (v := some (.int 0)) (hs' := hC0) (c' := 0) (s' := 0) rfl rfl ?_ ?_
  · refine mEnds.steps 1 (q' := (1, [some (.ref 2), some (.int x1)], [.int x1], hC0, 0, 0)) rfl ?_
    refine mEnds.brF (q' := (4, [some (.ref 2), some (.int x1)], [], hC0, 0, 0)) rfl f0 rfl ?_
    refine mEnds.steps 3 (q' := (9, [some (.ref 2), some (.int x1)], [.int 0, .int x1], hC0, 0, 0)) rfl ?_
    refine mEnds.brT (q' := (16, [some (.ref 2), some (.int x1)], [], hC0, 0, 0)) rfl (mtk_ge f0) rfl ?_
    refine mEnds.steps 1 (q' := (17, [some (.ref 2), some (.int x1)], [.int 0], hC0, 0, 0)) rfl ?_
    exact mEnds.ret rfl
  show mEnds [] 20 77 (8, [some (.ref 1), some (.int x1), some (.int x2), some (.int x3), none, none, none, none, none], [.int 0], hC0, 0, 0) _
  refine mEnds.steps 2 (q' := (31, [some (.ref 1), some (.int x1), some (.int x2), some (.int x3), none, none, none, none, none], [.int (-1)], hC0, 0, 0)) rfl ?_
  exact mEnds.ret rfl
set_option maxRecDepth 100000 in
theorem m20_F (x1 x2 x3 : Int32) (f0 : decide (x1 < 0) = false) : ∃ hs', mEnds [] 20 160 (mentry 160 [.ref 1, .int x1, .int x2, .int x3] hM0) (some (.int (-1)), hs', 0, 0) := by
  refine ⟨hM0, ?_⟩
  refine mEnds.steps 2 (q' := (2, [some (.ref 1), some (.int x1), some (.int x2), some (.int x3), none, none, none, none], [.int x1, .ref 1], hM0, 0, 0)) rfl ?_
  refine mEnds.call (d := 19) (y' := 126) (as := [.ref 1, .int x1]) (q' := (5, [some (.ref 1), some (.int x1), some (.int x2), some (.int x3), none, none, none, none], [], hM0, 0, 0)) (v := some (.int 0)) (hs' := hM0) (c' := 0) (s' := 0) rfl rfl ?_ ?_
  · refine mEnds.steps 8 (q' := (10, [some (.ref 1), some (.int x1)], [.long (-1), .long 0, .long x1.toInt64], hM0, 0, 0)) rfl ?_
    refine mEnds.call (d := 18) (y' := 111) (as := [.long x1.toInt64, .long 0, .long (-1)]) (q' := (13, [some (.ref 1), some (.int x1)], [], hM0, 0, 0)) (v := some (.int 0)) (hs' := hM0) (c' := 0) (s' := 0) rfl rfl ?_ ?_
    · refine mEnds.steps 3 (q' := (3, [some (.long x1.toInt64), none, some (.long 0), none, some (.long (-1)), none], [.int (lg_cmp x1.toInt64 0)], hM0, 0, 0)) rfl ?_
      refine mEnds.brF (q' := (6, [some (.long x1.toInt64), none, some (.long 0), none, some (.long (-1)), none], [], hM0, 0, 0)) rfl (lgc_lt (c := 0) (by decide) f0) rfl ?_
      refine mEnds.steps 3 (q' := (10, [some (.long x1.toInt64), none, some (.long 0), none, some (.long (-1)), none], [.int (lg_cmp x1.toInt64 (-1))], hM0, 0, 0)) rfl ?_
      refine mEnds.brT (q' := (17, [some (.long x1.toInt64), none, some (.long 0), none, some (.long (-1)), none], [], hM0, 0, 0)) rfl (lgc_gt (c := (-1)) (by decide) (ltF_gtT f0 (by decide))) rfl ?_
      refine mEnds.steps 1 (q' := (18, [some (.long x1.toInt64), none, some (.long 0), none, some (.long (-1)), none], [.int 0], hM0, 0, 0)) rfl ?_
      exact mEnds.ret rfl
    show mEnds [] 19 126 (13, [some (.ref 1), some (.int x1)], [.int 0], hM0, 0, 0) _
    exact mEnds.ret rfl
  show mEnds [] 20 160 (5, [some (.ref 1), some (.int x1), some (.int x2), some (.int x3), none, none, none, none], [.int 0], hM0, 0, 0) _
  refine mEnds.steps 2 (q' := (31, [some (.ref 1), some (.int x1), some (.int x2), some (.int x3), none, none, none, none], [.int (-1)], hM0, 0, 0)) rfl ?_
  exact mEnds.ret rfl
theorem ok_20 (x1 x2 x3 x4 x5 : Int32) : callOK_20 x1 x2 x3 x4 x5 := by
  cases f0 : decide (x1 < 0) with
  | true =>
    obtain ⟨h1, a1⟩ := c20_T x1 x2 x3 f0
    obtain ⟨h2, a2⟩ := m20_T x1 x2 x3 f0
    exact ⟨_, h1, h2, a1, a2⟩
  | false =>
    obtain ⟨h1, a1⟩ := c20_F x1 x2 x3 f0
    obtain ⟨h2, a2⟩ := m20_F x1 x2 x3 f0
    exact ⟨_, h1, h2, a1, a2⟩
set_option maxRecDepth 100000 in
theorem c23_T (x1 x2 x3 : Int32) (f0 : decide (x1 < 0) = true) : ∃ hs', mEnds [] 20 80 (mentry 80 [.ref 1, .int x1, .int x2, .int x3] hC0) (some (.int (-1)), hs', 0, 0) := by
  refine ⟨hC0, ?_⟩
  refine mEnds.steps 3 (q' := (4, [some (.ref 1), some (.int x1), some (.int x2), some (.int x3), none, none, none, none, none], [.int 60, .int 0, .int x1], hC0, 0, 0)) rfl ?_
  refine mEnds.call (d := 19) (y' := 105) (as := [.int x1, .int 0, .int 60]) (q' := (7, [some (.ref 1), some (.int x1), some (.int x2), some (.int x3), none, none, none, none, none], [], hC0, 0, 0)) (v := some (.int 0)) (hs' := hC0) (c' := 0) (s' := 0) rfl rfl ?_ ?_
  · refine mEnds.steps 2 (q' := (2, [some (.int x1), some (.int 0), some (.int 60)], [.int 0, .int x1], hC0, 0, 0)) rfl ?_
    refine mEnds.brT (q' := (14, [some (.int x1), some (.int 0), some (.int 60)], [], hC0, 0, 0)) rfl f0 rfl ?_
    refine mEnds.steps 1 (q' := (15, [some (.int x1), some (.int 0), some (.int 60)], [.int 0], hC0, 0, 0)) rfl ?_
    exact mEnds.ret rfl
  show mEnds [] 20 80 (7, [some (.ref 1), some (.int x1), some (.int x2), some (.int x3), none, none, none, none, none], [.int 0], hC0, 0, 0) _
  refine mEnds.steps 2 (q' := (30, [some (.ref 1), some (.int x1), some (.int x2), some (.int x3), none, none, none, none, none], [.int (-1)], hC0, 0, 0)) rfl ?_
  exact mEnds.ret rfl
set_option maxRecDepth 100000 in
theorem m23_T (x1 x2 x3 : Int32) (f0 : decide (x1 < 0) = true) : ∃ hs', mEnds [] 20 163 (mentry 163 [.ref 1, .int x1, .int x2, .int x3] hM0) (some (.int (-1)), hs', 0, 0) := by
  refine ⟨hM0, ?_⟩
  refine mEnds.steps 4 (q' := (6, [some (.ref 1), some (.int x1), some (.int x2), some (.int x3), none, none, none, none, none], [.long 60, .long 0, .long x1.toInt64], hM0, 0, 0)) rfl ?_
  refine mEnds.call (d := 19) (y' := 111) (as := [.long x1.toInt64, .long 0, .long 60]) (q' := (9, [some (.ref 1), some (.int x1), some (.int x2), some (.int x3), none, none, none, none, none], [], hM0, 0, 0)) (v := some (.int 0)) (hs' := hM0) (c' := 0) (s' := 0) rfl rfl ?_ ?_
  · refine mEnds.steps 3 (q' := (3, [some (.long x1.toInt64), none, some (.long 0), none, some (.long 60), none], [.int (lg_cmp x1.toInt64 0)], hM0, 0, 0)) rfl ?_
    refine mEnds.brT (q' := (17, [some (.long x1.toInt64), none, some (.long 0), none, some (.long 60), none], [], hM0, 0, 0)) rfl (lgc_lt (c := 0) (by decide) f0) rfl ?_
    refine mEnds.steps 1 (q' := (18, [some (.long x1.toInt64), none, some (.long 0), none, some (.long 60), none], [.int 0], hM0, 0, 0)) rfl ?_
    exact mEnds.ret rfl
  show mEnds [] 20 163 (9, [some (.ref 1), some (.int x1), some (.int x2), some (.int x3), none, none, none, none, none], [.int 0], hM0, 0, 0) _
  refine mEnds.steps 2 (q' := (35, [some (.ref 1), some (.int x1), some (.int x2), some (.int x3), none, none, none, none, none], [.int (-1)], hM0, 0, 0)) rfl ?_
  exact mEnds.ret rfl
set_option maxRecDepth 100000 in
theorem c23_FT (x1 x2 x3 : Int32) (f0 : decide (x1 < 0) = false) (f1 : decide (60 < x1) = true) : ∃ hs', mEnds [] 20 80 (mentry 80 [.ref 1, .int x1, .int x2, .int x3] hC0) (some (.int (-1)), hs', 0, 0) := by
  refine ⟨hC0, ?_⟩
  refine mEnds.steps 3 (q' := (4, [some (.ref 1), some (.int x1), some (.int x2), some (.int x3), none, none, none, none, none], [.int 60, .int 0, .int x1], hC0, 0, 0)) rfl ?_
  refine mEnds.call (d := 19) (y' := 105) (as := [.int x1, .int 0, .int 60]) (q' := (7, [some (.ref 1), some (.int x1), some (.int x2), some (.int x3), none, none, none, none, none], [], hC0, 0, 0)) (v := some (.int 0)) (hs' := hC0) (c' := 0) (s' := 0) rfl rfl ?_ ?_
  · refine mEnds.steps 2 (q' := (2, [some (.int x1), some (.int 0), some (.int 60)], [.int 0, .int x1], hC0, 0, 0)) rfl ?_
    refine mEnds.brF (q' := (5, [some (.int x1), some (.int 0), some (.int 60)], [], hC0, 0, 0)) rfl f0 rfl ?_
    refine mEnds.steps 2 (q' := (7, [some (.int x1), some (.int 0), some (.int 60)], [.int 60, .int x1], hC0, 0, 0)) rfl ?_
    refine mEnds.brT (q' := (14, [some (.int x1), some (.int 0), some (.int 60)], [], hC0, 0, 0)) rfl f1 rfl ?_
    refine mEnds.steps 1 (q' := (15, [some (.int x1), some (.int 0), some (.int 60)], [.int 0], hC0, 0, 0)) rfl ?_
    exact mEnds.ret rfl
  show mEnds [] 20 80 (7, [some (.ref 1), some (.int x1), some (.int x2), some (.int x3), none, none, none, none, none], [.int 0], hC0, 0, 0) _
  refine mEnds.steps 2 (q' := (30, [some (.ref 1), some (.int x1), some (.int x2), some (.int x3), none, none, none, none, none], [.int (-1)], hC0, 0, 0)) rfl ?_
  exact mEnds.ret rfl
set_option maxRecDepth 100000 in
theorem m23_FT (x1 x2 x3 : Int32) (f0 : decide (x1 < 0) = false) (f1 : decide (60 < x1) = true) : ∃ hs', mEnds [] 20 163 (mentry 163 [.ref 1, .int x1, .int x2, .int x3] hM0) (some (.int (-1)), hs', 0, 0) := by
  refine ⟨hM0, ?_⟩
  refine mEnds.steps 4 (q' := (6, [some (.ref 1), some (.int x1), some (.int x2), some (.int x3), none, none, none, none, none], [.long 60, .long 0, .long x1.toInt64], hM0, 0, 0)) rfl ?_
  refine mEnds.call (d := 19) (y' := 111) (as := [.long x1.toInt64, .long 0, .long 60]) (q' := (9, [some (.ref 1), some (.int x1), some (.int x2), some (.int x3), none, none, none, none, none], [], hM0, 0, 0)) (v := some (.int 0)) (hs' := hM0) (c' := 0) (s' := 0) rfl rfl ?_ ?_
  · refine mEnds.steps 3 (q' := (3, [some (.long x1.toInt64), none, some (.long 0), none, some (.long 60), none], [.int (lg_cmp x1.toInt64 0)], hM0, 0, 0)) rfl ?_
    refine mEnds.brF (q' := (6, [some (.long x1.toInt64), none, some (.long 0), none, some (.long 60), none], [], hM0, 0, 0)) rfl (lgc_lt (c := 0) (by decide) f0) rfl ?_
    refine mEnds.steps 3 (q' := (10, [some (.long x1.toInt64), none, some (.long 0), none, some (.long 60), none], [.int (lg_cmp x1.toInt64 60)], hM0, 0, 0)) rfl ?_
    refine mEnds.brT (q' := (17, [some (.long x1.toInt64), none, some (.long 0), none, some (.long 60), none], [], hM0, 0, 0)) rfl (lgc_gt (c := 60) (by decide) f1) rfl ?_
    refine mEnds.steps 1 (q' := (18, [some (.long x1.toInt64), none, some (.long 0), none, some (.long 60), none], [.int 0], hM0, 0, 0)) rfl ?_
    exact mEnds.ret rfl
  show mEnds [] 20 163 (9, [some (.ref 1), some (.int x1), some (.int x2), some (.int x3), none, none, none, none, none], [.int 0], hM0, 0, 0) _
  refine mEnds.steps 2 (q' := (35, [some (.ref 1), some (.int x1), some (.int x2), some (.int x3), none, none, none, none, none], [.int (-1)], hM0, 0, 0)) rfl ?_
  exact mEnds.ret rfl
set_option maxRecDepth 100000 in
theorem c23_FFT (x1 x2 x3 : Int32) (f0 : decide (x1 < 0) = false) (f1 : decide (60 < x1) = false) (f2 : decide (x2 < 0) = true) : ∃ hs', mEnds [] 20 80 (mentry 80 [.ref 1, .int x1, .int x2, .int x3] hC0) (some (.int (-1)), hs', 0, 0) := by
  refine ⟨hC0, ?_⟩
  refine mEnds.steps 3 (q' := (4, [some (.ref 1), some (.int x1), some (.int x2), some (.int x3), none, none, none, none, none], [.int 60, .int 0, .int x1], hC0, 0, 0)) rfl ?_
  refine mEnds.call (d := 19) (y' := 105) (as := [.int x1, .int 0, .int 60]) (q' := (7, [some (.ref 1), some (.int x1), some (.int x2), some (.int x3), none, none, none, none, none], [], hC0, 0, 0)) (v := some (.int 1)) (hs' := hC0) (c' := 0) (s' := 0) rfl rfl ?_ ?_
  · refine mEnds.steps 2 (q' := (2, [some (.int x1), some (.int 0), some (.int 60)], [.int 0, .int x1], hC0, 0, 0)) rfl ?_
    refine mEnds.brF (q' := (5, [some (.int x1), some (.int 0), some (.int 60)], [], hC0, 0, 0)) rfl f0 rfl ?_
    refine mEnds.steps 2 (q' := (7, [some (.int x1), some (.int 0), some (.int 60)], [.int 60, .int x1], hC0, 0, 0)) rfl ?_
    refine mEnds.brF (q' := (10, [some (.int x1), some (.int 0), some (.int 60)], [], hC0, 0, 0)) rfl f1 rfl ?_
    refine mEnds.steps 2 (q' := (15, [some (.int x1), some (.int 0), some (.int 60)], [.int 1], hC0, 0, 0)) rfl ?_
    exact mEnds.ret rfl
  show mEnds [] 20 80 (7, [some (.ref 1), some (.int x1), some (.int x2), some (.int x3), none, none, none, none, none], [.int 1], hC0, 0, 0) _
  refine mEnds.steps 4 (q' := (14, [some (.ref 1), some (.int x1), some (.int x2), some (.int x3), none, none, none, none, none], [.int 99, .int 0, .int x2], hC0, 0, 0)) rfl ?_
  refine mEnds.call (d := 19) (y' := 105) (as := [.int x2, .int 0, .int 99]) (q' := (17, [some (.ref 1), some (.int x1), some (.int x2), some (.int x3), none, none, none, none, none], [], hC0, 0, 0)) (v := some (.int 0)) (hs' := hC0) (c' := 0) (s' := 0) rfl rfl ?_ ?_
  · refine mEnds.steps 2 (q' := (2, [some (.int x2), some (.int 0), some (.int 99)], [.int 0, .int x2], hC0, 0, 0)) rfl ?_
    refine mEnds.brT (q' := (14, [some (.int x2), some (.int 0), some (.int 99)], [], hC0, 0, 0)) rfl f2 rfl ?_
    refine mEnds.steps 1 (q' := (15, [some (.int x2), some (.int 0), some (.int 99)], [.int 0], hC0, 0, 0)) rfl ?_
    exact mEnds.ret rfl
  show mEnds [] 20 80 (17, [some (.ref 1), some (.int x1), some (.int x2), some (.int x3), none, none, none, none, none], [.int 0], hC0, 0, 0) _
  refine mEnds.steps 2 (q' := (30, [some (.ref 1), some (.int x1), some (.int x2), some (.int x3), none, none, none, none, none], [.int (-1)], hC0, 0, 0)) rfl ?_
  exact mEnds.ret rfl
set_option maxRecDepth 100000 in
theorem m23_FFT (x1 x2 x3 : Int32) (f0 : decide (x1 < 0) = false) (f1 : decide (60 < x1) = false) (f2 : decide (x2 < 0) = true) : ∃ hs', mEnds [] 20 163 (mentry 163 [.ref 1, .int x1, .int x2, .int x3] hM0) (some (.int (-1)), hs', 0, 0) := by
  refine ⟨hM0, ?_⟩
  refine mEnds.steps 4 (q' := (6, [some (.ref 1), some (.int x1), some (.int x2), some (.int x3), none, none, none, none, none], [.long 60, .long 0, .long x1.toInt64], hM0, 0, 0)) rfl ?_
  refine mEnds.call (d := 19) (y' := 111) (as := [.long x1.toInt64, .long 0, .long 60]) (q' := (9, [some (.ref 1), some (.int x1), some (.int x2), some (.int x3), none, none, none, none, none], [], hM0, 0, 0)) (v := some (.int 1)) (hs' := hM0) (c' := 0) (s' := 0) rfl rfl ?_ ?_
  · refine mEnds.steps 3 (q' := (3, [some (.long x1.toInt64), none, some (.long 0), none, some (.long 60), none], [.int (lg_cmp x1.toInt64 0)], hM0, 0, 0)) rfl ?_
    refine mEnds.brF (q' := (6, [some (.long x1.toInt64), none, some (.long 0), none, some (.long 60), none], [], hM0, 0, 0)) rfl (lgc_lt (c := 0) (by decide) f0) rfl ?_
    refine mEnds.steps 3 (q' := (10, [some (.long x1.toInt64), none, some (.long 0), none, some (.long 60), none], [.int (lg_cmp x1.toInt64 60)], hM0, 0, 0)) rfl ?_
    refine mEnds.brF (q' := (13, [some (.long x1.toInt64), none, some (.long 0), none, some (.long 60), none], [], hM0, 0, 0)) rfl (lgc_gt (c := 60) (by decide) f1) rfl ?_
    refine mEnds.steps 2 (q' := (18, [some (.long x1.toInt64), none, some (.long 0), none, some (.long 60), none], [.int 1], hM0, 0, 0)) rfl ?_
    exact mEnds.ret rfl
  show mEnds [] 20 163 (9, [some (.ref 1), some (.int x1), some (.int x2), some (.int x3), none, none, none, none, none], [.int 1], hM0, 0, 0) _
  refine mEnds.steps 5 (q' := (18, [some (.ref 1), some (.int x1), some (.int x2), some (.int x3), none, none, none, none, none], [.long 99, .long 0, .long x2.toInt64], hM0, 0, 0)) rfl ?_
  refine mEnds.call (d := 19) (y' := 111) (as := [.long x2.toInt64, .long 0, .long 99]) (q' := (21, [some (.ref 1), some (.int x1), some (.int x2), some (.int x3), none, none, none, none, none], [], hM0, 0, 0)) (v := some (.int 0)) (hs' := hM0) (c' := 0) (s' := 0) rfl rfl ?_ ?_
  · refine mEnds.steps 3 (q' := (3, [some (.long x2.toInt64), none, some (.long 0), none, some (.long 99), none], [.int (lg_cmp x2.toInt64 0)], hM0, 0, 0)) rfl ?_
    refine mEnds.brT (q' := (17, [some (.long x2.toInt64), none, some (.long 0), none, some (.long 99), none], [], hM0, 0, 0)) rfl (lgc_lt (c := 0) (by decide) f2) rfl ?_
    refine mEnds.steps 1 (q' := (18, [some (.long x2.toInt64), none, some (.long 0), none, some (.long 99), none], [.int 0], hM0, 0, 0)) rfl ?_
    exact mEnds.ret rfl
  show mEnds [] 20 163 (21, [some (.ref 1), some (.int x1), some (.int x2), some (.int x3), none, none, none, none, none], [.int 0], hM0, 0, 0) _
  refine mEnds.steps 2 (q' := (35, [some (.ref 1), some (.int x1), some (.int x2), some (.int x3), none, none, none, none, none], [.int (-1)], hM0, 0, 0)) rfl ?_
  exact mEnds.ret rfl
set_option maxRecDepth 100000 in
theorem c23_FFFT (x1 x2 x3 : Int32) (f0 : decide (x1 < 0) = false) (f1 : decide (60 < x1) = false) (f2 : decide (x2 < 0) = false) (f3 : decide (99 < x2) = true) : ∃ hs', mEnds [] 20 80 (mentry 80 [.ref 1, .int x1, .int x2, .int x3] hC0) (some (.int (-1)), hs', 0, 0) := by
  refine ⟨hC0, ?_⟩
  refine mEnds.steps 3 (q' := (4, [some (.ref 1), some (.int x1), some (.int x2), some (.int x3), none, none, none, none, none], [.int 60, .int 0, .int x1], hC0, 0, 0)) rfl ?_
  refine mEnds.call (d := 19) (y' := 105) (as := [.int x1, .int 0, .int 60]) (q' := (7, [some (.ref 1), some (.int x1), some (.int x2), some (.int x3), none, none, none, none, none], [], hC0, 0, 0)) (v := some (.int 1)) (hs' := hC0) (c' := 0) (s' := 0) rfl rfl ?_ ?_
  · refine mEnds.steps 2 (q' := (2, [some (.int x1), some (.int 0), some (.int 60)], [.int 0, .int x1], hC0, 0, 0)) rfl ?_
    refine mEnds.brF (q' := (5, [some (.int x1), some (.int 0), some (.int 60)], [], hC0, 0, 0)) rfl f0 rfl ?_
    refine mEnds.steps 2 (q' := (7, [some (.int x1), some (.int 0), some (.int 60)], [.int 60, .int x1], hC0, 0, 0)) rfl ?_
    refine mEnds.brF (q' := (10, [some (.int x1), some (.int 0), some (.int 60)], [], hC0, 0, 0)) rfl f1 rfl ?_
    refine mEnds.steps 2 (q' := (15, [some (.int x1), some (.int 0), some (.int 60)], [.int 1], hC0, 0, 0)) rfl ?_
    exact mEnds.ret rfl
  show mEnds [] 20 80 (7, [some (.ref 1), some (.int x1), some (.int x2), some (.int x3), none, none, none, none, none], [.int 1], hC0, 0, 0) _
  refine mEnds.steps 4 (q' := (14, [some (.ref 1), some (.int x1), some (.int x2), some (.int x3), none, none, none, none, none], [.int 99, .int 0, .int x2], hC0, 0, 0)) rfl ?_
  refine mEnds.call (d := 19) (y' := 105) (as := [.int x2, .int 0, .int 99]) (q' := (17, [some (.ref 1), some (.int x1), some (.int x2), some (.int x3), none, none, none, none, none], [], hC0, 0, 0)) (v := some (.int 0)) (hs' := hC0) (c' := 0) (s' := 0) rfl rfl ?_ ?_
  · refine mEnds.steps 2 (q' := (2, [some (.int x2), some (.int 0), some (.int 99)], [.int 0, .int x2], hC0, 0, 0)) rfl ?_
    refine mEnds.brF (q' := (5, [some (.int x2), some (.int 0), some (.int 99)], [], hC0, 0, 0)) rfl f2 rfl ?_
    refine mEnds.steps 2 (q' := (7, [some (.int x2), some (.int 0), some (.int 99)], [.int 99, .int x2], hC0, 0, 0)) rfl ?_
    refine mEnds.brT (q' := (14, [some (.int x2), some (.int 0), some (.int 99)], [], hC0, 0, 0)) rfl f3 rfl ?_
    refine mEnds.steps 1 (q' := (15, [some (.int x2), some (.int 0), some (.int 99)], [.int 0], hC0, 0, 0)) rfl ?_
    exact mEnds.ret rfl
  show mEnds [] 20 80 (17, [some (.ref 1), some (.int x1), some (.int x2), some (.int x3), none, none, none, none, none], [.int 0], hC0, 0, 0) _
  refine mEnds.steps 2 (q' := (30, [some (.ref 1), some (.int x1), some (.int x2), some (.int x3), none, none, none, none, none], [.int (-1)], hC0, 0, 0)) rfl ?_
  exact mEnds.ret rfl
set_option maxRecDepth 100000 in
theorem m23_FFFT (x1 x2 x3 : Int32) (f0 : decide (x1 < 0) = false) (f1 : decide (60 < x1) = false) (f2 : decide (x2 < 0) = false) (f3 : decide (99 < x2) = true) : ∃ hs', mEnds [] 20 163 (mentry 163 [.ref 1, .int x1, .int x2, .int x3] hM0) (some (.int (-1)), hs', 0, 0) := by
  refine ⟨hM0, ?_⟩
  refine mEnds.steps 4 (q' := (6, [some (.ref 1), some (.int x1), some (.int x2), some (.int x3), none, none, none, none, none], [.long 60, .long 0, .long x1.toInt64], hM0, 0, 0)) rfl ?_
  refine mEnds.call (d := 19) (y' := 111) (as := [.long x1.toInt64, .long 0, .long 60]) (q' := (9, [some (.ref 1), some (.int x1), some (.int x2), some (.int x3), none, none, none, none, none], [], hM0, 0, 0)) (v := some (.int 1)) (hs' := hM0) (c' := 0) (s' := 0) rfl rfl ?_ ?_
  · refine mEnds.steps 3 (q' := (3, [some (.long x1.toInt64), none, some (.long 0), none, some (.long 60), none], [.int (lg_cmp x1.toInt64 0)], hM0, 0, 0)) rfl ?_
    refine mEnds.brF (q' := (6, [some (.long x1.toInt64), none, some (.long 0), none, some (.long 60), none], [], hM0, 0, 0)) rfl (lgc_lt (c := 0) (by decide) f0) rfl ?_
    refine mEnds.steps 3 (q' := (10, [some (.long x1.toInt64), none, some (.long 0), none, some (.long 60), none], [.int (lg_cmp x1.toInt64 60)], hM0, 0, 0)) rfl ?_
    refine mEnds.brF (q' := (13, [some (.long x1.toInt64), none, some (.long 0), none, some (.long 60), none], [], hM0, 0, 0)) rfl (lgc_gt (c := 60) (by decide) f1) rfl ?_
    refine mEnds.steps 2 (q' := (18, [some (.long x1.toInt64), none, some (.long 0), none, some (.long 60), none], [.int 1], hM0, 0, 0)) rfl ?_
    exact mEnds.ret rfl
  show mEnds [] 20 163 (9, [some (.ref 1), some (.int x1), some (.int x2), some (.int x3), none, none, none, none, none], [.int 1], hM0, 0, 0) _
  refine mEnds.steps 5 (q' := (18, [some (.ref 1), some (.int x1), some (.int x2), some (.int x3), none, none, none, none, none], [.long 99, .long 0, .long x2.toInt64], hM0, 0, 0)) rfl ?_
  refine mEnds.call (d := 19) (y' := 111) (as := [.long x2.toInt64, .long 0, .long 99]) (q' := (21, [some (.ref 1), some (.int x1), some (.int x2), some (.int x3), none, none, none, none, none], [], hM0, 0, 0)) (v := some (.int 0)) (hs' := hM0) (c' := 0) (s' := 0) rfl rfl ?_ ?_
  · refine mEnds.steps 3 (q' := (3, [some (.long x2.toInt64), none, some (.long 0), none, some (.long 99), none], [.int (lg_cmp x2.toInt64 0)], hM0, 0, 0)) rfl ?_
    refine mEnds.brF (q' := (6, [some (.long x2.toInt64), none, some (.long 0), none, some (.long 99), none], [], hM0, 0, 0)) rfl (lgc_lt (c := 0) (by decide) f2) rfl ?_
    refine mEnds.steps 3 (q' := (10, [some (.long x2.toInt64), none, some (.long 0), none, some (.long 99), none], [.int (lg_cmp x2.toInt64 99)], hM0, 0, 0)) rfl ?_
    refine mEnds.brT (q' := (17, [some (.long x2.toInt64), none, some (.long 0), none, some (.long 99), none], [], hM0, 0, 0)) rfl (lgc_gt (c := 99) (by decide) f3) rfl ?_
    refine mEnds.steps 1 (q' := (18, [some (.long x2.toInt64), none, some (.long 0), none, some (.long 99), none], [.int 0], hM0, 0, 0)) rfl ?_
    exact mEnds.ret rfl
  show mEnds [] 20 163 (21, [some (.ref 1), some (.int x1), some (.int x2), some (.int x3), none, none, none, none, none], [.int 0], hM0, 0, 0) _
  refine mEnds.steps 2 (q' := (35, [some (.ref 1), some (.int x1), some (.int x2), some (.int x3), none, none, none, none, none], [.int (-1)], hM0, 0, 0)) rfl ?_
  exact mEnds.ret rfl
set_option maxRecDepth 100000 in
theorem c23_FFFFT (x1 x2 x3 : Int32) (f0 : decide (x1 < 0) = false) (f1 : decide (60 < x1) = false) (f2 : decide (x2 < 0) = false) (f3 : decide (99 < x2) = false) (f4 : decide (x3 < 0) = true) : ∃ hs', mEnds [] 20 80 (mentry 80 [.ref 1, .int x1, .int x2, .int x3] hC0) (some (.int (-1)), hs', 0, 0) := by
  refine ⟨hC0, ?_⟩
  refine mEnds.steps 3 (q' := (4, [some (.ref 1), some (.int x1), some (.int x2), some (.int x3), none, none, none, none, none], [.int 60, .int 0, .int x1], hC0, 0, 0)) rfl ?_
  refine mEnds.call (d := 19) (y' := 105) (as := [.int x1, .int 0, .int 60]) (q' := (7, [some (.ref 1), some (.int x1), some (.int x2), some (.int x3), none, none, none, none, none], [], hC0, 0, 0)) (v := some (.int 1)) (hs' := hC0) (c' := 0) (s' := 0) rfl rfl ?_ ?_
  · refine mEnds.steps 2 (q' := (2, [some (.int x1), some (.int 0), some (.int 60)], [.int 0, .int x1], hC0, 0, 0)) rfl ?_
    refine mEnds.brF (q' := (5, [some (.int x1), some (.int 0), some (.int 60)], [], hC0, 0, 0)) rfl f0 rfl ?_
    refine mEnds.steps 2 (q' := (7, [some (.int x1), some (.int 0), some (.int 60)], [.int 60, .int x1], hC0, 0, 0)) rfl ?_
    refine mEnds.brF (q' := (10, [some (.int x1), some (.int 0), some (.int 60)], [], hC0, 0, 0)) rfl f1 rfl ?_
    refine mEnds.steps 2 (q' := (15, [some (.int x1), some (.int 0), some (.int 60)], [.int 1], hC0, 0, 0)) rfl ?_
    exact mEnds.ret rfl
  show mEnds [] 20 80 (7, [some (.ref 1), some (.int x1), some (.int x2), some (.int x3), none, none, none, none, none], [.int 1], hC0, 0, 0) _
  refine mEnds.steps 4 (q' := (14, [some (.ref 1), some (.int x1), some (.int x2), some (.int x3), none, none, none, none, none], [.int 99, .int 0, .int x2], hC0, 0, 0)) rfl ?_
  refine mEnds.call (d := 19) (y' := 105) (as := [.int x2, .int 0, .int 99]) (q' := (17, [some (.ref 1), some (.int x1), some (.int x2), some (.int x3), none, none, none, none, none], [], hC0, 0, 0)) (v := some (.int 1)) (hs' := hC0) (c' := 0) (s' := 0) rfl rfl ?_ ?_
  · refine mEnds.steps 2 (q' := (2, [some (.int x2), some (.int 0), some (.int 99)], [.int 0, .int x2], hC0, 0, 0)) rfl ?_
    refine mEnds.brF (q' := (5, [some (.int x2), some (.int 0), some (.int 99)], [], hC0, 0, 0)) rfl f2 rfl ?_
    refine mEnds.steps 2 (q' := (7, [some (.int x2), some (.int 0), some (.int 99)], [.int 99, .int x2], hC0, 0, 0)) rfl ?_
    refine mEnds.brF (q' := (10, [some (.int x2), some (.int 0), some (.int 99)], [], hC0, 0, 0)) rfl f3 rfl ?_
    refine mEnds.steps 2 (q' := (15, [some (.int x2), some (.int 0), some (.int 99)], [.int 1], hC0, 0, 0)) rfl ?_
    exact mEnds.ret rfl
  show mEnds [] 20 80 (17, [some (.ref 1), some (.int x1), some (.int x2), some (.int x3), none, none, none, none, none], [.int 1], hC0, 0, 0) _
  refine mEnds.steps 4 (q' := (23, [some (.ref 1), some (.int x1), some (.int x2), some (.int x3), none, none, none, none, none], [.int 1, .int 0, .int x3], hC0, 0, 0)) rfl ?_
  refine mEnds.call (d := 19) (y' := 105) (as := [.int x3, .int 0, .int 1]) (q' := (26, [some (.ref 1), some (.int x1), some (.int x2), some (.int x3), none, none, none, none, none], [], hC0, 0, 0)) (v := some (.int 0)) (hs' := hC0) (c' := 0) (s' := 0) rfl rfl ?_ ?_
  · refine mEnds.steps 2 (q' := (2, [some (.int x3), some (.int 0), some (.int 1)], [.int 0, .int x3], hC0, 0, 0)) rfl ?_
    refine mEnds.brT (q' := (14, [some (.int x3), some (.int 0), some (.int 1)], [], hC0, 0, 0)) rfl f4 rfl ?_
    refine mEnds.steps 1 (q' := (15, [some (.int x3), some (.int 0), some (.int 1)], [.int 0], hC0, 0, 0)) rfl ?_
    exact mEnds.ret rfl
  show mEnds [] 20 80 (26, [some (.ref 1), some (.int x1), some (.int x2), some (.int x3), none, none, none, none, none], [.int 0], hC0, 0, 0) _
  refine mEnds.steps 2 (q' := (30, [some (.ref 1), some (.int x1), some (.int x2), some (.int x3), none, none, none, none, none], [.int (-1)], hC0, 0, 0)) rfl ?_
  exact mEnds.ret rfl
set_option maxRecDepth 100000 in
theorem m23_FFFFT (x1 x2 x3 : Int32) (f0 : decide (x1 < 0) = false) (f1 : decide (60 < x1) = false) (f2 : decide (x2 < 0) = false) (f3 : decide (99 < x2) = false) (f4 : decide (x3 < 0) = true) : ∃ hs', mEnds [] 20 163 (mentry 163 [.ref 1, .int x1, .int x2, .int x3] hM0) (some (.int (-1)), hs', 0, 0) := by
  refine ⟨hM0, ?_⟩
  refine mEnds.steps 4 (q' := (6, [some (.ref 1), some (.int x1), some (.int x2), some (.int x3), none, none, none, none, none], [.long 60, .long 0, .long x1.toInt64], hM0, 0, 0)) rfl ?_
  refine mEnds.call (d := 19) (y' := 111) (as := [.long x1.toInt64, .long 0, .long 60]) (q' := (9, [some (.ref 1), some (.int x1), some (.int x2), some (.int x3), none, none, none, none, none], [], hM0, 0, 0)) (v := some (.int 1)) (hs' := hM0) (c' := 0) (s' := 0) rfl rfl ?_ ?_
  · refine mEnds.steps 3 (q' := (3, [some (.long x1.toInt64), none, some (.long 0), none, some (.long 60), none], [.int (lg_cmp x1.toInt64 0)], hM0, 0, 0)) rfl ?_
    refine mEnds.brF (q' := (6, [some (.long x1.toInt64), none, some (.long 0), none, some (.long 60), none], [], hM0, 0, 0)) rfl (lgc_lt (c := 0) (by decide) f0) rfl ?_
    refine mEnds.steps 3 (q' := (10, [some (.long x1.toInt64), none, some (.long 0), none, some (.long 60), none], [.int (lg_cmp x1.toInt64 60)], hM0, 0, 0)) rfl ?_
    refine mEnds.brF (q' := (13, [some (.long x1.toInt64), none, some (.long 0), none, some (.long 60), none], [], hM0, 0, 0)) rfl (lgc_gt (c := 60) (by decide) f1) rfl ?_
    refine mEnds.steps 2 (q' := (18, [some (.long x1.toInt64), none, some (.long 0), none, some (.long 60), none], [.int 1], hM0, 0, 0)) rfl ?_
    exact mEnds.ret rfl
  show mEnds [] 20 163 (9, [some (.ref 1), some (.int x1), some (.int x2), some (.int x3), none, none, none, none, none], [.int 1], hM0, 0, 0) _
  refine mEnds.steps 5 (q' := (18, [some (.ref 1), some (.int x1), some (.int x2), some (.int x3), none, none, none, none, none], [.long 99, .long 0, .long x2.toInt64], hM0, 0, 0)) rfl ?_
  refine mEnds.call (d := 19) (y' := 111) (as := [.long x2.toInt64, .long 0, .long 99]) (q' := (21, [some (.ref 1), some (.int x1), some (.int x2), some (.int x3), none, none, none, none, none], [], hM0, 0, 0)) (v := some (.int 1)) (hs' := hM0) (c' := 0) (s' := 0) rfl rfl ?_ ?_
  · refine mEnds.steps 3 (q' := (3, [some (.long x2.toInt64), none, some (.long 0), none, some (.long 99), none], [.int (lg_cmp x2.toInt64 0)], hM0, 0, 0)) rfl ?_
    refine mEnds.brF (q' := (6, [some (.long x2.toInt64), none, some (.long 0), none, some (.long 99), none], [], hM0, 0, 0)) rfl (lgc_lt (c := 0) (by decide) f2) rfl ?_
    refine mEnds.steps 3 (q' := (10, [some (.long x2.toInt64), none, some (.long 0), none, some (.long 99), none], [.int (lg_cmp x2.toInt64 99)], hM0, 0, 0)) rfl ?_
    refine mEnds.brF (q' := (13, [some (.long x2.toInt64), none, some (.long 0), none, some (.long 99), none], [], hM0, 0, 0)) rfl (lgc_gt (c := 99) (by decide) f3) rfl ?_
    refine mEnds.steps 2 (q' := (18, [some (.long x2.toInt64), none, some (.long 0), none, some (.long 99), none], [.int 1], hM0, 0, 0)) rfl ?_
    exact mEnds.ret rfl
  show mEnds [] 20 163 (21, [some (.ref 1), some (.int x1), some (.int x2), some (.int x3), none, none, none, none, none], [.int 1], hM0, 0, 0) _
  refine mEnds.steps 5 (q' := (28, [some (.ref 1), some (.int x1), some (.int x2), some (.int x3), none, none, none, none, none], [.long 1, .long 0, .long x3.toInt64], hM0, 0, 0)) rfl ?_
  refine mEnds.call (d := 19) (y' := 111) (as := [.long x3.toInt64, .long 0, .long 1]) (q' := (31, [some (.ref 1), some (.int x1), some (.int x2), some (.int x3), none, none, none, none, none], [], hM0, 0, 0)) (v := some (.int 0)) (hs' := hM0) (c' := 0) (s' := 0) rfl rfl ?_ ?_
  · refine mEnds.steps 3 (q' := (3, [some (.long x3.toInt64), none, some (.long 0), none, some (.long 1), none], [.int (lg_cmp x3.toInt64 0)], hM0, 0, 0)) rfl ?_
    refine mEnds.brT (q' := (17, [some (.long x3.toInt64), none, some (.long 0), none, some (.long 1), none], [], hM0, 0, 0)) rfl (lgc_lt (c := 0) (by decide) f4) rfl ?_
    refine mEnds.steps 1 (q' := (18, [some (.long x3.toInt64), none, some (.long 0), none, some (.long 1), none], [.int 0], hM0, 0, 0)) rfl ?_
    exact mEnds.ret rfl
  show mEnds [] 20 163 (31, [some (.ref 1), some (.int x1), some (.int x2), some (.int x3), none, none, none, none, none], [.int 0], hM0, 0, 0) _
  refine mEnds.steps 2 (q' := (35, [some (.ref 1), some (.int x1), some (.int x2), some (.int x3), none, none, none, none, none], [.int (-1)], hM0, 0, 0)) rfl ?_
  exact mEnds.ret rfl
set_option maxRecDepth 100000 in
theorem c23_FFFFFT (x1 x2 x3 : Int32) (f0 : decide (x1 < 0) = false) (f1 : decide (60 < x1) = false) (f2 : decide (x2 < 0) = false) (f3 : decide (99 < x2) = false) (f4 : decide (x3 < 0) = false) (f5 : decide (1 < x3) = true) : ∃ hs', mEnds [] 20 80 (mentry 80 [.ref 1, .int x1, .int x2, .int x3] hC0) (some (.int (-1)), hs', 0, 0) := by
  refine ⟨hC0, ?_⟩
  refine mEnds.steps 3 (q' := (4, [some (.ref 1), some (.int x1), some (.int x2), some (.int x3), none, none, none, none, none], [.int 60, .int 0, .int x1], hC0, 0, 0)) rfl ?_
  refine mEnds.call (d := 19) (y' := 105) (as := [.int x1, .int 0, .int 60]) (q' := (7, [some (.ref 1), some (.int x1), some (.int x2), some (.int x3), none, none, none, none, none], [], hC0, 0, 0)) (v := some (.int 1)) (hs' := hC0) (c' := 0) (s' := 0) rfl rfl ?_ ?_
  · refine mEnds.steps 2 (q' := (2, [some (.int x1), some (.int 0), some (.int 60)], [.int 0, .int x1], hC0, 0, 0)) rfl ?_
    refine mEnds.brF (q' := (5, [some (.int x1), some (.int 0), some (.int 60)], [], hC0, 0, 0)) rfl f0 rfl ?_
    refine mEnds.steps 2 (q' := (7, [some (.int x1), some (.int 0), some (.int 60)], [.int 60, .int x1], hC0, 0, 0)) rfl ?_
    refine mEnds.brF (q' := (10, [some (.int x1), some (.int 0), some (.int 60)], [], hC0, 0, 0)) rfl f1 rfl ?_
    refine mEnds.steps 2 (q' := (15, [some (.int x1), some (.int 0), some (.int 60)], [.int 1], hC0, 0, 0)) rfl ?_
    exact mEnds.ret rfl
  show mEnds [] 20 80 (7, [some (.ref 1), some (.int x1), some (.int x2), some (.int x3), none, none, none, none, none], [.int 1], hC0, 0, 0) _
  refine mEnds.steps 4 (q' := (14, [some (.ref 1), some (.int x1), some (.int x2), some (.int x3), none, none, none, none, none], [.int 99, .int 0, .int x2], hC0, 0, 0)) rfl ?_
  refine mEnds.call (d := 19) (y' := 105) (as := [.int x2, .int 0, .int 99]) (q' := (17, [some (.ref 1), some (.int x1), some (.int x2), some (.int x3), none, none, none, none, none], [], hC0, 0, 0)) (v := some (.int 1)) (hs' := hC0) (c' := 0) (s' := 0) rfl rfl ?_ ?_
  · refine mEnds.steps 2 (q' := (2, [some (.int x2), some (.int 0), some (.int 99)], [.int 0, .int x2], hC0, 0, 0)) rfl ?_
    refine mEnds.brF (q' := (5, [some (.int x2), some (.int 0), some (.int 99)], [], hC0, 0, 0)) rfl f2 rfl ?_
    refine mEnds.steps 2 (q' := (7, [some (.int x2), some (.int 0), some (.int 99)], [.int 99, .int x2], hC0, 0, 0)) rfl ?_
    refine mEnds.brF (q' := (10, [some (.int x2), some (.int 0), some (.int 99)], [], hC0, 0, 0)) rfl f3 rfl ?_
    refine mEnds.steps 2 (q' := (15, [some (.int x2), some (.int 0), some (.int 99)], [.int 1], hC0, 0, 0)) rfl ?_
    exact mEnds.ret rfl
  show mEnds [] 20 80 (17, [some (.ref 1), some (.int x1), some (.int x2), some (.int x3), none, none, none, none, none], [.int 1], hC0, 0, 0) _
  refine mEnds.steps 4 (q' := (23, [some (.ref 1), some (.int x1), some (.int x2), some (.int x3), none, none, none, none, none], [.int 1, .int 0, .int x3], hC0, 0, 0)) rfl ?_
  refine mEnds.call (d := 19) (y' := 105) (as := [.int x3, .int 0, .int 1]) (q' := (26, [some (.ref 1), some (.int x1), some (.int x2), some (.int x3), none, none, none, none, none], [], hC0, 0, 0)) (v := some (.int 0)) (hs' := hC0) (c' := 0) (s' := 0) rfl rfl ?_ ?_
  · refine mEnds.steps 2 (q' := (2, [some (.int x3), some (.int 0), some (.int 1)], [.int 0, .int x3], hC0, 0, 0)) rfl ?_
    refine mEnds.brF (q' := (5, [some (.int x3), some (.int 0), some (.int 1)], [], hC0, 0, 0)) rfl f4 rfl ?_
    refine mEnds.steps 2 (q' := (7, [some (.int x3), some (.int 0), some (.int 1)], [.int 1, .int x3], hC0, 0, 0)) rfl ?_
    refine mEnds.brT (q' := (14, [some (.int x3), some (.int 0), some (.int 1)], [], hC0, 0, 0)) rfl f5 rfl ?_
    refine mEnds.steps 1 (q' := (15, [some (.int x3), some (.int 0), some (.int 1)], [.int 0], hC0, 0, 0)) rfl ?_
    exact mEnds.ret rfl
  show mEnds [] 20 80 (26, [some (.ref 1), some (.int x1), some (.int x2), some (.int x3), none, none, none, none, none], [.int 0], hC0, 0, 0) _
  refine mEnds.steps 2 (q' := (30, [some (.ref 1), some (.int x1), some (.int x2), some (.int x3), none, none, none, none, none], [.int (-1)], hC0, 0, 0)) rfl ?_
  exact mEnds.ret rfl
set_option maxRecDepth 100000 in
theorem m23_FFFFFT (x1 x2 x3 : Int32) (f0 : decide (x1 < 0) = false) (f1 : decide (60 < x1) = false) (f2 : decide (x2 < 0) = false) (f3 : decide (99 < x2) = false) (f4 : decide (x3 < 0) = false) (f5 : decide (1 < x3) = true) : ∃ hs', mEnds [] 20 163 (mentry 163 [.ref 1, .int x1, .int x2, .int x3] hM0) (some (.int (-1)), hs', 0, 0) := by
  refine ⟨hM0, ?_⟩
  refine mEnds.steps 4 (q' := (6, [some (.ref 1), some (.int x1), some (.int x2), some (.int x3), none, none, none, none, none], [.long 60, .long 0, .long x1.toInt64], hM0, 0, 0)) rfl ?_
  refine mEnds.call (d := 19) (y' := 111) (as := [.long x1.toInt64, .long 0, .long 60]) (q' := (9, [some (.ref 1), some (.int x1), some (.int x2), some (.int x3), none, none, none, none, none], [], hM0, 0, 0)) (v := some (.int 1)) (hs' := hM0) (c' := 0) (s' := 0) rfl rfl ?_ ?_
  · refine mEnds.steps 3 (q' := (3, [some (.long x1.toInt64), none, some (.long 0), none, some (.long 60), none], [.int (lg_cmp x1.toInt64 0)], hM0, 0, 0)) rfl ?_
    refine mEnds.brF (q' := (6, [some (.long x1.toInt64), none, some (.long 0), none, some (.long 60), none], [], hM0, 0, 0)) rfl (lgc_lt (c := 0) (by decide) f0) rfl ?_
    refine mEnds.steps 3 (q' := (10, [some (.long x1.toInt64), none, some (.long 0), none, some (.long 60), none], [.int (lg_cmp x1.toInt64 60)], hM0, 0, 0)) rfl ?_
    refine mEnds.brF (q' := (13, [some (.long x1.toInt64), none, some (.long 0), none, some (.long 60), none], [], hM0, 0, 0)) rfl (lgc_gt (c := 60) (by decide) f1) rfl ?_
    refine mEnds.steps 2 (q' := (18, [some (.long x1.toInt64), none, some (.long 0), none, some (.long 60), none], [.int 1], hM0, 0, 0)) rfl ?_
    exact mEnds.ret rfl
  show mEnds [] 20 163 (9, [some (.ref 1), some (.int x1), some (.int x2), some (.int x3), none, none, none, none, none], [.int 1], hM0, 0, 0) _
  refine mEnds.steps 5 (q' := (18, [some (.ref 1), some (.int x1), some (.int x2), some (.int x3), none, none, none, none, none], [.long 99, .long 0, .long x2.toInt64], hM0, 0, 0)) rfl ?_
  refine mEnds.call (d := 19) (y' := 111) (as := [.long x2.toInt64, .long 0, .long 99]) (q' := (21, [some (.ref 1), some (.int x1), some (.int x2), some (.int x3), none, none, none, none, none], [], hM0, 0, 0)) (v := some (.int 1)) (hs' := hM0) (c' := 0) (s' := 0) rfl rfl ?_ ?_
  · refine mEnds.steps 3 (q' := (3, [some (.long x2.toInt64), none, some (.long 0), none, some (.long 99), none], [.int (lg_cmp x2.toInt64 0)], hM0, 0, 0)) rfl ?_
    refine mEnds.brF (q' := (6, [some (.long x2.toInt64), none, some (.long 0), none, some (.long 99), none], [], hM0, 0, 0)) rfl (lgc_lt (c := 0) (by decide) f2) rfl ?_
    refine mEnds.steps 3 (q' := (10, [some (.long x2.toInt64), none, some (.long 0), none, some (.long 99), none], [.int (lg_cmp x2.toInt64 99)], hM0, 0, 0)) rfl ?_
    refine mEnds.brF (q' := (13, [some (.long x2.toInt64), none, some (.long 0), none, some (.long 99), none], [], hM0, 0, 0)) rfl (lgc_gt (c := 99) (by decide) f3) rfl ?_
    refine mEnds.steps 2 (q' := (18, [some (.long x2.toInt64), none, some (.long 0), none, some (.long 99), none], [.int 1], hM0, 0, 0)) rfl ?_
    exact mEnds.ret rfl
  show mEnds [] 20 163 (21, [some (.ref 1), some (.int x1), some (.int x2), some (.int x3), none, none, none, none, none], [.int 1], hM0, 0, 0) _
  refine mEnds.steps 5 (q' := (28, [some (.ref 1), some (.int x1), some (.int x2), some (.int x3), none, none, none, none, none], [.long 1, .long 0, .long x3.toInt64], hM0, 0, 0)) rfl ?_
  refine mEnds.call (d := 19) (y' := 111) (as := [.long x3.toInt64, .long 0, .long 1]) (q' := (31, [some (.ref 1), some (.int x1), some (.int x2), some (.int x3), none, none, none, none, none], [], hM0, 0, 0)) (v := some (.int 0)) (hs' := hM0) (c' := 0) (s' := 0) rfl rfl ?_ ?_
  · refine mEnds.steps 3 (q' := (3, [some (.long x3.toInt64), none, some (.long 0), none, some (.long 1), none], [.int (lg_cmp x3.toInt64 0)], hM0, 0, 0)) rfl ?_
    refine mEnds.brF (q' := (6, [some (.long x3.toInt64), none, some (.long 0), none, some (.long 1), none], [], hM0, 0, 0)) rfl (lgc_lt (c := 0) (by decide) f4) rfl ?_
    refine mEnds.steps 3 (q' := (10, [some (.long x3.toInt64), none, some (.long 0), none, some (.long 1), none], [.int (lg_cmp x3.toInt64 1)], hM0, 0, 0)) rfl ?_
    refine mEnds.brT (q' := (17, [some (.long x3.toInt64), none, some (.long 0), none, some (.long 1), none], [], hM0, 0, 0)) rfl (lgc_gt (c := 1) (by decide) f5) rfl ?_
    refine mEnds.steps 1 (q' := (18, [some (.long x3.toInt64), none, some (.long 0), none, some (.long 1), none], [.int 0], hM0, 0, 0)) rfl ?_
    exact mEnds.ret rfl
  show mEnds [] 20 163 (31, [some (.ref 1), some (.int x1), some (.int x2), some (.int x3), none, none, none, none, none], [.int 0], hM0, 0, 0) _
  refine mEnds.steps 2 (q' := (35, [some (.ref 1), some (.int x1), some (.int x2), some (.int x3), none, none, none, none, none], [.int (-1)], hM0, 0, 0)) rfl ?_
  exact mEnds.ret rfl
set_option maxRecDepth 100000 in
theorem c23_FFFFFF (x1 x2 x3 : Int32) (f0 : decide (x1 < 0) = false) (f1 : decide (60 < x1) = false) (f2 : decide (x2 < 0) = false) (f3 : decide (99 < x2) = false) (f4 : decide (x3 < 0) = false) (f5 : decide (1 < x3) = false) : ∃ hs', mEnds [] 20 80 (mentry 80 [.ref 1, .int x1, .int x2, .int x3] hC0) (some (.int (-4)), hs', 0, 0) := by
  refine ⟨hC0, ?_⟩
  refine mEnds.steps 3 (q' := (4, [some (.ref 1), some (.int x1), some (.int x2), some (.int x3), none, none, none, none, none], [.int 60, .int 0, .int x1], hC0, 0, 0)) rfl ?_
  refine mEnds.call (d := 19) (y' := 105) (as := [.int x1, .int 0, .int 60]) (q' := (7, [some (.ref 1), some (.int x1), some (.int x2), some (.int x3), none, none, none, none, none], [], hC0, 0, 0)) (v := some (.int 1)) (hs' := hC0) (c' := 0) (s' := 0) rfl rfl ?_ ?_
  · refine mEnds.steps 2 (q' := (2, [some (.int x1), some (.int 0), some (.int 60)], [.int 0, .int x1], hC0, 0, 0)) rfl ?_
    refine mEnds.brF (q' := (5, [some (.int x1), some (.int 0), some (.int 60)], [], hC0, 0, 0)) rfl f0 rfl ?_
    refine mEnds.steps 2 (q' := (7, [some (.int x1), some (.int 0), some (.int 60)], [.int 60, .int x1], hC0, 0, 0)) rfl ?_
    refine mEnds.brF (q' := (10, [some (.int x1), some (.int 0), some (.int 60)], [], hC0, 0, 0)) rfl f1 rfl ?_
    refine mEnds.steps 2 (q' := (15, [some (.int x1), some (.int 0), some (.int 60)], [.int 1], hC0, 0, 0)) rfl ?_
    exact mEnds.ret rfl
  show mEnds [] 20 80 (7, [some (.ref 1), some (.int x1), some (.int x2), some (.int x3), none, none, none, none, none], [.int 1], hC0, 0, 0) _
  refine mEnds.steps 4 (q' := (14, [some (.ref 1), some (.int x1), some (.int x2), some (.int x3), none, none, none, none, none], [.int 99, .int 0, .int x2], hC0, 0, 0)) rfl ?_
  refine mEnds.call (d := 19) (y' := 105) (as := [.int x2, .int 0, .int 99]) (q' := (17, [some (.ref 1), some (.int x1), some (.int x2), some (.int x3), none, none, none, none, none], [], hC0, 0, 0)) (v := some (.int 1)) (hs' := hC0) (c' := 0) (s' := 0) rfl rfl ?_ ?_
  · refine mEnds.steps 2 (q' := (2, [some (.int x2), some (.int 0), some (.int 99)], [.int 0, .int x2], hC0, 0, 0)) rfl ?_
    refine mEnds.brF (q' := (5, [some (.int x2), some (.int 0), some (.int 99)], [], hC0, 0, 0)) rfl f2 rfl ?_
    refine mEnds.steps 2 (q' := (7, [some (.int x2), some (.int 0), some (.int 99)], [.int 99, .int x2], hC0, 0, 0)) rfl ?_
    refine mEnds.brF (q' := (10, [some (.int x2), some (.int 0), some (.int 99)], [], hC0, 0, 0)) rfl f3 rfl ?_
    refine mEnds.steps 2 (q' := (15, [some (.int x2), some (.int 0), some (.int 99)], [.int 1], hC0, 0, 0)) rfl ?_
    exact mEnds.ret rfl
  show mEnds [] 20 80 (17, [some (.ref 1), some (.int x1), some (.int x2), some (.int x3), none, none, none, none, none], [.int 1], hC0, 0, 0) _
  refine mEnds.steps 4 (q' := (23, [some (.ref 1), some (.int x1), some (.int x2), some (.int x3), none, none, none, none, none], [.int 1, .int 0, .int x3], hC0, 0, 0)) rfl ?_
  refine mEnds.call (d := 19) (y' := 105) (as := [.int x3, .int 0, .int 1]) (q' := (26, [some (.ref 1), some (.int x1), some (.int x2), some (.int x3), none, none, none, none, none], [], hC0, 0, 0)) (v := some (.int 1)) (hs' := hC0) (c' := 0) (s' := 0) rfl rfl ?_ ?_
  · refine mEnds.steps 2 (q' := (2, [some (.int x3), some (.int 0), some (.int 1)], [.int 0, .int x3], hC0, 0, 0)) rfl ?_
    refine mEnds.brF (q' := (5, [some (.int x3), some (.int 0), some (.int 1)], [], hC0, 0, 0)) rfl f4 rfl ?_
    refine mEnds.steps 2 (q' := (7, [some (.int x3), some (.int 0), some (.int 1)], [.int 1, .int x3], hC0, 0, 0)) rfl ?_
    refine mEnds.brF (q' := (10, [some (.int x3), some (.int 0), some (.int 1)], [], hC0, 0, 0)) rfl f5 rfl ?_
    refine mEnds.steps 2 (q' := (15, [some (.int x3), some (.int 0), some (.int 1)], [.int 1], hC0, 0, 0)) rfl ?_
    exact mEnds.ret rfl
  show mEnds [] 20 80 (26, [some (.ref 1), some (.int x1), some (.int x2), some (.int x3), none, none, none, none, none], [.int 1], hC0, 0, 0) _
  refine mEnds.steps 15 (q' := (125, [some (.ref 1), some (.int x1), some (.int x2), some (.int x3), some (.int (-4)), some (.int 10000), some (.int 0), none, none], [.int x3, .int 10000, .int (-4)], hC0, 0, 0)) rfl ?_
  refine mEnds.call (d := 19) (y' := 108) (as := [.int (-4), .int 10000, .int x3]) (q' := (128, [some (.ref 1), some (.int x1), some (.int x2), some (.int x3), some (.int (-4)), some (.int 10000), some (.int 0), none, none], [], hC0, 0, 0)) (v := some (.int (-4))) (hs' := hC0) (c' := 0) (s' := 0) rfl rfl ?_ ?_
  · refine mEnds.steps 4 (q' := (8, [some (.int (-4)), some (.int 10000), some (.int x3)], [.int (-4)], hC0, 0, 0)) rfl ?_
    exact mEnds.ret rfl
  show mEnds [] 20 80 (128, [some (.ref 1), some (.int x1), some (.int x2), some (.int x3), some (.int (-4)), some (.int 10000), some (.int 0), none, none], [.int (-4)], hC0, 0, 0) _
  exact mEnds.ret rfl
set_option maxRecDepth 100000 in
theorem m23_FFFFFF (x1 x2 x3 : Int32) (f0 : decide (x1 < 0) = false) (f1 : decide (60 < x1) = false) (f2 : decide (x2 < 0) = false) (f3 : decide (99 < x2) = false) (f4 : decide (x3 < 0) = false) (f5 : decide (1 < x3) = false) : ∃ hs', mEnds [] 20 163 (mentry 163 [.ref 1, .int x1, .int x2, .int x3] hM0) (some (.int (-4)), hs', 0, 0) := by
  refine ⟨hM0, ?_⟩
  refine mEnds.steps 4 (q' := (6, [some (.ref 1), some (.int x1), some (.int x2), some (.int x3), none, none, none, none, none], [.long 60, .long 0, .long x1.toInt64], hM0, 0, 0)) rfl ?_
  refine mEnds.call (d := 19) (y' := 111) (as := [.long x1.toInt64, .long 0, .long 60]) (q' := (9, [some (.ref 1), some (.int x1), some (.int x2), some (.int x3), none, none, none, none, none], [], hM0, 0, 0)) (v := some (.int 1)) (hs' := hM0) (c' := 0) (s' := 0) rfl rfl ?_ ?_
  · refine mEnds.steps 3 (q' := (3, [some (.long x1.toInt64), none, some (.long 0), none, some (.long 60), none], [.int (lg_cmp x1.toInt64 0)], hM0, 0, 0)) rfl ?_
    refine mEnds.brF (q' := (6, [some (.long x1.toInt64), none, some (.long 0), none, some (.long 60), none], [], hM0, 0, 0)) rfl (lgc_lt (c := 0) (by decide) f0) rfl ?_
    refine mEnds.steps 3 (q' := (10, [some (.long x1.toInt64), none, some (.long 0), none, some (.long 60), none], [.int (lg_cmp x1.toInt64 60)], hM0, 0, 0)) rfl ?_
    refine mEnds.brF (q' := (13, [some (.long x1.toInt64), none, some (.long 0), none, some (.long 60), none], [], hM0, 0, 0)) rfl (lgc_gt (c := 60) (by decide) f1) rfl ?_
    refine mEnds.steps 2 (q' := (18, [some (.long x1.toInt64), none, some (.long 0), none, some (.long 60), none], [.int 1], hM0, 0, 0)) rfl ?_
    exact mEnds.ret rfl
  show mEnds [] 20 163 (9, [some (.ref 1), some (.int x1), some (.int x2), some (.int x3), none, none, none, none, none], [.int 1], hM0, 0, 0) _
  refine mEnds.steps 5 (q' := (18, [some (.ref 1), some (.int x1), some (.int x2), some (.int x3), none, none, none, none, none], [.long 99, .long 0, .long x2.toInt64], hM0, 0, 0)) rfl ?_
  refine mEnds.call (d := 19) (y' := 111) (as := [.long x2.toInt64, .long 0, .long 99]) (q' := (21, [some (.ref 1), some (.int x1), some (.int x2), some (.int x3), none, none, none, none, none], [], hM0, 0, 0)) (v := some (.int 1)) (hs' := hM0) (c' := 0) (s' := 0) rfl rfl ?_ ?_
  · refine mEnds.steps 3 (q' := (3, [some (.long x2.toInt64), none, some (.long 0), none, some (.long 99), none], [.int (lg_cmp x2.toInt64 0)], hM0, 0, 0)) rfl ?_
    refine mEnds.brF (q' := (6, [some (.long x2.toInt64), none, some (.long 0), none, some (.long 99), none], [], hM0, 0, 0)) rfl (lgc_lt (c := 0) (by decide) f2) rfl ?_
    refine mEnds.steps 3 (q' := (10, [some (.long x2.toInt64), none, some (.long 0), none, some (.long 99), none], [.int (lg_cmp x2.toInt64 99)], hM0, 0, 0)) rfl ?_
    refine mEnds.brF (q' := (13, [some (.long x2.toInt64), none, some (.long 0), none, some (.long 99), none], [], hM0, 0, 0)) rfl (lgc_gt (c := 99) (by decide) f3) rfl ?_
    refine mEnds.steps 2 (q' := (18, [some (.long x2.toInt64), none, some (.long 0), none, some (.long 99), none], [.int 1], hM0, 0, 0)) rfl ?_
    exact mEnds.ret rfl
  show mEnds [] 20 163 (21, [some (.ref 1), some (.int x1), some (.int x2), some (.int x3), none, none, none, none, none], [.int 1], hM0, 0, 0) _
  refine mEnds.steps 5 (q' := (28, [some (.ref 1), some (.int x1), some (.int x2), some (.int x3), none, none, none, none, none], [.long 1, .long 0, .long x3.toInt64], hM0, 0, 0)) rfl ?_
  refine mEnds.call (d := 19) (y' := 111) (as := [.long x3.toInt64, .long 0, .long 1]) (q' := (31, [some (.ref 1), some (.int x1), some (.int x2), some (.int x3), none, none, none, none, none], [], hM0, 0, 0)) (v := some (.int 1)) (hs' := hM0) (c' := 0) (s' := 0) rfl rfl ?_ ?_
  · refine mEnds.steps 3 (q' := (3, [some (.long x3.toInt64), none, some (.long 0), none, some (.long 1), none], [.int (lg_cmp x3.toInt64 0)], hM0, 0, 0)) rfl ?_
    refine mEnds.brF (q' := (6, [some (.long x3.toInt64), none, some (.long 0), none, some (.long 1), none], [], hM0, 0, 0)) rfl (lgc_lt (c := 0) (by decide) f4) rfl ?_
    refine mEnds.steps 3 (q' := (10, [some (.long x3.toInt64), none, some (.long 0), none, some (.long 1), none], [.int (lg_cmp x3.toInt64 1)], hM0, 0, 0)) rfl ?_
    refine mEnds.brF (q' := (13, [some (.long x3.toInt64), none, some (.long 0), none, some (.long 1), none], [], hM0, 0, 0)) rfl (lgc_gt (c := 1) (by decide) f5) rfl ?_
    refine mEnds.steps 2 (q' := (18, [some (.long x3.toInt64), none, some (.long 0), none, some (.long 1), none], [.int 1], hM0, 0, 0)) rfl ?_
    exact mEnds.ret rfl
  show mEnds [] 20 163 (31, [some (.ref 1), some (.int x1), some (.int x2), some (.int x3), none, none, none, none, none], [.int 1], hM0, 0, 0) _
  refine mEnds.steps 16 (q' := (166, [some (.ref 1), some (.int x1), some (.int x2), some (.int x3), some (.int 1000000), some (.int (-4)), some (.int 0), none, none], [.int (-4)], hM0, 0, 0)) rfl ?_
  exact mEnds.ret rfl
theorem ok_23 (x1 x2 x3 x4 x5 : Int32) : callOK_23 x1 x2 x3 x4 x5 := by
  cases f0 : decide (x1 < 0) with
  | true =>
    obtain ⟨h1, a1⟩ := c23_T x1 x2 x3 f0
    obtain ⟨h2, a2⟩ := m23_T x1 x2 x3 f0
    exact ⟨_, h1, h2, a1, a2⟩
  | false =>
    cases f1 : decide (60 < x1) with
    | true =>
      obtain ⟨h1, a1⟩ := c23_FT x1 x2 x3 f0 f1
      obtain ⟨h2, a2⟩ := m23_FT x1 x2 x3 f0 f1
      exact ⟨_, h1, h2, a1, a2⟩
    | false =>
      cases f2 : decide (x2 < 0) with
      | true =>
        obtain ⟨h1, a1⟩ := c23_FFT x1 x2 x3 f0 f1 f2
        obtain ⟨h2, a2⟩ := m23_FFT x1 x2 x3 f0 f1 f2
        exact ⟨_, h1, h2, a1, a2⟩
      | false =>
        cases f3 : decide (99 < x2) with
        | true =>
          obtain ⟨h1, a1⟩ := c23_FFFT x1 x2 x3 f0 f1 f2 f3
          obtain ⟨h2, a2⟩ := m23_FFFT x1 x2 x3 f0 f1 f2 f3
          exact ⟨_, h1, h2, a1, a2⟩
        | false =>
          cases f4 : decide (x3 < 0) with
          | true =>
            obtain ⟨h1, a1⟩ := c23_FFFFT x1 x2 x3 f0 f1 f2 f3 f4
            obtain ⟨h2, a2⟩ := m23_FFFFT x1 x2 x3 f0 f1 f2 f3 f4
            exact ⟨_, h1, h2, a1, a2⟩
          | false =>
            cases f5 : decide (1 < x3) with
            | true =>
              obtain ⟨h1, a1⟩ := c23_FFFFFT x1 x2 x3 f0 f1 f2 f3 f4 f5
              obtain ⟨h2, a2⟩ := m23_FFFFFT x1 x2 x3 f0 f1 f2 f3 f4 f5
              exact ⟨_, h1, h2, a1, a2⟩
            | false =>
              obtain ⟨h1, a1⟩ := c23_FFFFFF x1 x2 x3 f0 f1 f2 f3 f4 f5
              obtain ⟨h2, a2⟩ := m23_FFFFFF x1 x2 x3 f0 f1 f2 f3 f4 f5
              exact ⟨_, h1, h2, a1, a2⟩
