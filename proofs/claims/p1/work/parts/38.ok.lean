set_option maxRecDepth 100000 in
theorem cpf : mEnds [] 10 7 (mentry 7 [.ref 2, .ref 44] hC0) (none, hC0, 0, 0) := ⟨200, eqR_ok (by decide +kernel)⟩
set_option maxRecDepth 100000 in
theorem c36_T (x1 x2 x3 x4 : Int32) (f0 : decide (x1 < 0) = true) : ∃ hs', mEnds [] 20 102 (mentry 102 [.ref 1, .int x1, .int x2, .int x3, .int x4] hC0) (some (.int (-1)), hs', 0, 0) := by
  refine ⟨hC0, ?_⟩
  refine mEnds.steps 3 (q' := (3, [some (.ref 1), some (.int x1), some (.int x2), some (.int x3), some (.int x4), none, none, none, none, none, none], [.int 3, .int 0, .int x1], hC0, 0, 0)) rfl ?_
  refine mEnds.call (d := 19) (y' := 105) (as := [.int x1, .int 0, .int 3]) (q' := (6, [some (.ref 1), some (.int x1), some (.int x2), some (.int x3), some (.int x4), none, none, none, none, none, none], [], hC0, 0, 0)) (v := some (.int 0)) (hs' := hC0) (c' := 0) (s' := 0) rfl rfl ?_ ?_
  · refine mEnds.steps 2 (q' := (2, [some (.int x1), some (.int 0), some (.int 3)], [.int 0, .int x1], hC0, 0, 0)) rfl ?_
    refine mEnds.brT (q' := (14, [some (.int x1), some (.int 0), some (.int 3)], [], hC0, 0, 0)) rfl f0 rfl ?_
    refine mEnds.steps 1 (q' := (15, [some (.int x1), some (.int 0), some (.int 3)], [.int 0], hC0, 0, 0)) rfl ?_
    exact mEnds.ret rfl
  show mEnds [] 20 102 (6, [some (.ref 1), some (.int x1), some (.int x2), some (.int x3), some (.int x4), none, none, none, none, none, none], [.int 0], hC0, 0, 0) _
  refine mEnds.steps 2 (q' := (30, [some (.ref 1), some (.int x1), some (.int x2), some (.int x3), some (.int x4), none, none, none, none, none, none], [.int (-1)], hC0, 0, 0)) rfl ?_
  exact mEnds.ret rfl
set_option maxRecDepth 100000 in
theorem m36_T (x1 x2 x3 x4 : Int32) (f0 : decide (x1 < 0) = true) : ∃ hs', mEnds [] 20 181 (mentry 181 [.ref 1, .int x1, .int x2, .int x3, .int x4] hM0) (some (.int (-1)), hs', 0, 0) := by
  refine ⟨hM0, ?_⟩
  refine mEnds.steps 4 (q' := (6, [some (.ref 1), some (.int x1), some (.int x2), some (.int x3), some (.int x4), none, none, none, none, none], [.long 3, .long 0, .long x1.toInt64], hM0, 0, 0)) rfl ?_
  refine mEnds.call (d := 19) (y' := 111) (as := [.long x1.toInt64, .long 0, .long 3]) (q' := (9, [some (.ref 1), some (.int x1), some (.int x2), some (.int x3), some (.int x4), none, none, none, none, none], [], hM0, 0, 0)) (v := some (.int 0)) (hs' := hM0) (c' := 0) (s' := 0) rfl rfl ?_ ?_
  · refine mEnds.steps 3 (q' := (3, [some (.long x1.toInt64), none, some (.long 0), none, some (.long 3), none], [.int (lg_cmp x1.toInt64 0)], hM0, 0, 0)) rfl ?_
    refine mEnds.brT (q' := (17, [some (.long x1.toInt64), none, some (.long 0), none, some (.long 3), none], [], hM0, 0, 0)) rfl (lgc_lt (c := 0) (by decide) f0) rfl ?_
    refine mEnds.steps 1 (q' := (18, [some (.long x1.toInt64), none, some (.long 0), none, some (.long 3), none], [.int 0], hM0, 0, 0)) rfl ?_
    exact mEnds.ret rfl
  show mEnds [] 20 181 (9, [some (.ref 1), some (.int x1), some (.int x2), some (.int x3), some (.int x4), none, none, none, none, none], [.int 0], hM0, 0, 0) _
  refine mEnds.steps 2 (q' := (38, [some (.ref 1), some (.int x1), some (.int x2), some (.int x3), some (.int x4), none, none, none, none, none], [.int (-1)], hM0, 0, 0)) rfl ?_
  exact mEnds.ret rfl
set_option maxRecDepth 100000 in
theorem c36_FT (x1 x2 x3 x4 : Int32) (f0 : decide (x1 < 0) = false) (f1 : decide (3 < x1) = true) : ∃ hs', mEnds [] 20 102 (mentry 102 [.ref 1, .int x1, .int x2, .int x3, .int x4] hC0) (some (.int (-1)), hs', 0, 0) := by
  refine ⟨hC0, ?_⟩
  refine mEnds.steps 3 (q' := (3, [some (.ref 1), some (.int x1), some (.int x2), some (.int x3), some (.int x4), none, none, none, none, none, none], [.int 3, .int 0, .int x1], hC0, 0, 0)) rfl ?_
  refine mEnds.call (d := 19) (y' := 105) (as := [.int x1, .int 0, .int 3]) (q' := (6, [some (.ref 1), some (.int x1), some (.int x2), some (.int x3), some (.int x4), none, none, none, none, none, none], [], hC0, 0, 0)) (v := some (.int 0)) (hs' := hC0) (c' := 0) (s' := 0) rfl rfl ?_ ?_
  · refine mEnds.steps 2 (q' := (2, [some (.int x1), some (.int 0), some (.int 3)], [.int 0, .int x1], hC0, 0, 0)) rfl ?_
    refine mEnds.brF (q' := (5, [some (.int x1), some (.int 0), some (.int 3)], [], hC0, 0, 0)) rfl f0 rfl ?_
    refine mEnds.steps 2 (q' := (7, [some (.int x1), some (.int 0), some (.int 3)], [.int 3, .int x1], hC0, 0, 0)) rfl ?_
    refine mEnds.brT (q' := (14, [some (.int x1), some (.int 0), some (.int 3)], [], hC0, 0, 0)) rfl f1 rfl ?_
    refine mEnds.steps 1 (q' := (15, [some (.int x1), some (.int 0), some (.int 3)], [.int 0], hC0, 0, 0)) rfl ?_
    exact mEnds.ret rfl
  show mEnds [] 20 102 (6, [some (.ref 1), some (.int x1), some (.int x2), some (.int x3), some (.int x4), none, none, none, none, none, none], [.int 0], hC0, 0, 0) _
  refine mEnds.steps 2 (q' := (30, [some (.ref 1), some (.int x1), some (.int x2), some (.int x3), some (.int x4), none, none, none, none, none, none], [.int (-1)], hC0, 0, 0)) rfl ?_
  exact mEnds.ret rfl
set_option maxRecDepth 100000 in
theorem m36_FT (x1 x2 x3 x4 : Int32) (f0 : decide (x1 < 0) = false) (f1 : decide (3 < x1) = true) : ∃ hs', mEnds [] 20 181 (mentry 181 [.ref 1, .int x1, .int x2, .int x3, .int x4] hM0) (some (.int (-1)), hs', 0, 0) := by
  refine ⟨hM0, ?_⟩
  refine mEnds.steps 4 (q' := (6, [some (.ref 1), some (.int x1), some (.int x2), some (.int x3), some (.int x4), none, none, none, none, none], [.long 3, .long 0, .long x1.toInt64], hM0, 0, 0)) rfl ?_
  refine mEnds.call (d := 19) (y' := 111) (as := [.long x1.toInt64, .long 0, .long 3]) (q' := (9, [some (.ref 1), some (.int x1), some (.int x2), some (.int x3), some (.int x4), none, none, none, none, none], [], hM0, 0, 0)) (v := some (.int 0)) (hs' := hM0) (c' := 0) (s' := 0) rfl rfl ?_ ?_
  · refine mEnds.steps 3 (q' := (3, [some (.long x1.toInt64), none, some (.long 0), none, some (.long 3), none], [.int (lg_cmp x1.toInt64 0)], hM0, 0, 0)) rfl ?_
    refine mEnds.brF (q' := (6, [some (.long x1.toInt64), none, some (.long 0), none, some (.long 3), none], [], hM0, 0, 0)) rfl (lgc_lt (c := 0) (by decide) f0) rfl ?_
    refine mEnds.steps 3 (q' := (10, [some (.long x1.toInt64), none, some (.long 0), none, some (.long 3), none], [.int (lg_cmp x1.toInt64 3)], hM0, 0, 0)) rfl ?_
    refine mEnds.brT (q' := (17, [some (.long x1.toInt64), none, some (.long 0), none, some (.long 3), none], [], hM0, 0, 0)) rfl (lgc_gt (c := 3) (by decide) f1) rfl ?_
    refine mEnds.steps 1 (q' := (18, [some (.long x1.toInt64), none, some (.long 0), none, some (.long 3), none], [.int 0], hM0, 0, 0)) rfl ?_
    exact mEnds.ret rfl
  show mEnds [] 20 181 (9, [some (.ref 1), some (.int x1), some (.int x2), some (.int x3), some (.int x4), none, none, none, none, none], [.int 0], hM0, 0, 0) _
  refine mEnds.steps 2 (q' := (38, [some (.ref 1), some (.int x1), some (.int x2), some (.int x3), some (.int x4), none, none, none, none, none], [.int (-1)], hM0, 0, 0)) rfl ?_
  exact mEnds.ret rfl
set_option maxRecDepth 100000 in
theorem c36_FFT (x1 x2 x3 x4 : Int32) (f0 : decide (x1 < 0) = false) (f1 : decide (3 < x1) = false) (f2 : decide (x2 < 0) = true) : ∃ hs', mEnds [] 20 102 (mentry 102 [.ref 1, .int x1, .int x2, .int x3, .int x4] hC0) (some (.int (-1)), hs', 0, 0) := by
  refine ⟨hC0, ?_⟩
  refine mEnds.steps 3 (q' := (3, [some (.ref 1), some (.int x1), some (.int x2), some (.int x3), some (.int x4), none, none, none, none, none, none], [.int 3, .int 0, .int x1], hC0, 0, 0)) rfl ?_
  refine mEnds.call (d := 19) (y' := 105) (as := [.int x1, .int 0, .int 3]) (q' := (6, [some (.ref 1), some (.int x1), some (.int x2), some (.int x3), some (.int x4), none, none, none, none, none, none], [], hC0, 0, 0)) (v := some (.int 1)) (hs' := hC0) (c' := 0) (s' := 0) rfl rfl ?_ ?_
  · refine mEnds.steps 2 (q' := (2, [some (.int x1), some (.int 0), some (.int 3)], [.int 0, .int x1], hC0, 0, 0)) rfl ?_
    refine mEnds.brF (q' := (5, [some (.int x1), some (.int 0), some (.int 3)], [], hC0, 0, 0)) rfl f0 rfl ?_
    refine mEnds.steps 2 (q' := (7, [some (.int x1), some (.int 0), some (.int 3)], [.int 3, .int x1], hC0, 0, 0)) rfl ?_
    refine mEnds.brF (q' := (10, [some (.int x1), some (.int 0), some (.int 3)], [], hC0, 0, 0)) rfl f1 rfl ?_
    refine mEnds.steps 2 (q' := (15, [some (.int x1), some (.int 0), some (.int 3)], [.int 1], hC0, 0, 0)) rfl ?_
    exact mEnds.ret rfl
  show mEnds [] 20 102 (6, [some (.ref 1), some (.int x1), some (.int x2), some (.int x3), some (.int x4), none, none, none, none, none, none], [.int 1], hC0, 0, 0) _
  refine mEnds.steps 4 (q' := (12, [some (.ref 1), some (.int x1), some (.int x2), some (.int x3), some (.int x4), none, none, none, none, none, none], [.int 2, .int 0, .int x2], hC0, 0, 0)) rfl ?_
  refine mEnds.call (d := 19) (y' := 105) (as := [.int x2, .int 0, .int 2]) (q' := (15, [some (.ref 1), some (.int x1), some (.int x2), some (.int x3), some (.int x4), none, none, none, none, none, none], [], hC0, 0, 0)) (v := some (.int 0)) (hs' := hC0) (c' := 0) (s' := 0) rfl rfl ?_ ?_
  · refine mEnds.steps 2 (q' := (2, [some (.int x2), some (.int 0), some (.int 2)], [.int 0, .int x2], hC0, 0, 0)) rfl ?_
    refine mEnds.brT (q' := (14, [some (.int x2), some (.int 0), some (.int 2)], [], hC0, 0, 0)) rfl f2 rfl ?_
    refine mEnds.steps 1 (q' := (15, [some (.int x2), some (.int 0), some (.int 2)], [.int 0], hC0, 0, 0)) rfl ?_
    exact mEnds.ret rfl
  show mEnds [] 20 102 (15, [some (.ref 1), some (.int x1), some (.int x2), some (.int x3), some (.int x4), none, none, none, none, none, none], [.int 0], hC0, 0, 0) _
  refine mEnds.steps 2 (q' := (30, [some (.ref 1), some (.int x1), some (.int x2), some (.int x3), some (.int x4), none, none, none, none, none, none], [.int (-1)], hC0, 0, 0)) rfl ?_
  exact mEnds.ret rfl
set_option maxRecDepth 100000 in
theorem m36_FFT (x1 x2 x3 x4 : Int32) (f0 : decide (x1 < 0) = false) (f1 : decide (3 < x1) = false) (f2 : decide (x2 < 0) = true) : ∃ hs', mEnds [] 20 181 (mentry 181 [.ref 1, .int x1, .int x2, .int x3, .int x4] hM0) (some (.int (-1)), hs', 0, 0) := by
  refine ⟨hM0, ?_⟩
  refine mEnds.steps 4 (q' := (6, [some (.ref 1), some (.int x1), some (.int x2), some (.int x3), some (.int x4), none, none, none, none, none], [.long 3, .long 0, .long x1.toInt64], hM0, 0, 0)) rfl ?_
  refine mEnds.call (d := 19) (y' := 111) (as := [.long x1.toInt64, .long 0, .long 3]) (q' := (9, [some (.ref 1), some (.int x1), some (.int x2), some (.int x3), some (.int x4), none, none, none, none, none], [], hM0, 0, 0)) (v := some (.int 1)) (hs' := hM0) (c' := 0) (s' := 0) rfl rfl ?_ ?_
  · refine mEnds.steps 3 (q' := (3, [some (.long x1.toInt64), none, some (.long 0), none, some (.long 3), none], [.int (lg_cmp x1.toInt64 0)], hM0, 0, 0)) rfl ?_
    refine mEnds.brF (q' := (6, [some (.long x1.toInt64), none, some (.long 0), none, some (.long 3), none], [], hM0, 0, 0)) rfl (lgc_lt (c := 0) (by decide) f0) rfl ?_
    refine mEnds.steps 3 (q' := (10, [some (.long x1.toInt64), none, some (.long 0), none, some (.long 3), none], [.int (lg_cmp x1.toInt64 3)], hM0, 0, 0)) rfl ?_
    refine mEnds.brF (q' := (13, [some (.long x1.toInt64), none, some (.long 0), none, some (.long 3), none], [], hM0, 0, 0)) rfl (lgc_gt (c := 3) (by decide) f1) rfl ?_
    refine mEnds.steps 2 (q' := (18, [some (.long x1.toInt64), none, some (.long 0), none, some (.long 3), none], [.int 1], hM0, 0, 0)) rfl ?_
    exact mEnds.ret rfl
  show mEnds [] 20 181 (9, [some (.ref 1), some (.int x1), some (.int x2), some (.int x3), some (.int x4), none, none, none, none, none], [.int 1], hM0, 0, 0) _
  refine mEnds.steps 5 (q' := (18, [some (.ref 1), some (.int x1), some (.int x2), some (.int x3), some (.int x4), none, none, none, none, none], [.long 2, .long 0, .long x2.toInt64], hM0, 0, 0)) rfl ?_
  refine mEnds.call (d := 19) (y' := 111) (as := [.long x2.toInt64, .long 0, .long 2]) (q' := (21, [some (.ref 1), some (.int x1), some (.int x2), some (.int x3), some (.int x4), none, none, none, none, none], [], hM0, 0, 0)) (v := some (.int 0)) (hs' := hM0) (c' := 0) (s' := 0) rfl rfl ?_ ?_
  · refine mEnds.steps 3 (q' := (3, [some (.long x2.toInt64), none, some (.long 0), none, some (.long 2), none], [.int (lg_cmp x2.toInt64 0)], hM0, 0, 0)) rfl ?_
    refine mEnds.brT (q' := (17, [some (.long x2.toInt64), none, some (.long 0), none, some (.long 2), none], [], hM0, 0, 0)) rfl (lgc_lt (c := 0) (by decide) f2) rfl ?_
    refine mEnds.steps 1 (q' := (18, [some (.long x2.toInt64), none, some (.long 0), none, some (.long 2), none], [.int 0], hM0, 0, 0)) rfl ?_
    exact mEnds.ret rfl
  show mEnds [] 20 181 (21, [some (.ref 1), some (.int x1), some (.int x2), some (.int x3), some (.int x4), none, none, none, none, none], [.int 0], hM0, 0, 0) _
  refine mEnds.steps 2 (q' := (38, [some (.ref 1), some (.int x1), some (.int x2), some (.int x3), some (.int x4), none, none, none, none, none], [.int (-1)], hM0, 0, 0)) rfl ?_
  exact mEnds.ret rfl
set_option maxRecDepth 100000 in
theorem c36_FFFT (x1 x2 x3 x4 : Int32) (f0 : decide (x1 < 0) = false) (f1 : decide (3 < x1) = false) (f2 : decide (x2 < 0) = false) (f3 : decide (2 < x2) = true) : ∃ hs', mEnds [] 20 102 (mentry 102 [.ref 1, .int x1, .int x2, .int x3, .int x4] hC0) (some (.int (-1)), hs', 0, 0) := by
  refine ⟨hC0, ?_⟩
  refine mEnds.steps 3 (q' := (3, [some (.ref 1), some (.int x1), some (.int x2), some (.int x3), some (.int x4), none, none, none, none, none, none], [.int 3, .int 0, .int x1], hC0, 0, 0)) rfl ?_
  refine mEnds.call (d := 19) (y' := 105) (as := [.int x1, .int 0, .int 3]) (q' := (6, [some (.ref 1), some (.int x1), some (.int x2), some (.int x3), some (.int x4), none, none, none, none, none, none], [], hC0, 0, 0)) (v := some (.int 1)) (hs' := hC0) (c' := 0) (s' := 0) rfl rfl ?_ ?_
  · refine mEnds.steps 2 (q' := (2, [some (.int x1), some (.int 0), some (.int 3)], [.int 0, .int x1], hC0, 0, 0)) rfl ?_
    refine mEnds.brF (q' := (5, [some (.int x1), some (.int 0), some (.int 3)], [], hC0, 0, 0)) rfl f0 rfl ?_
    refine mEnds.steps 2 (q' := (7, [some (.int x1), some (.int 0), some (.int 3)], [.int 3, .int x1], hC0, 0, 0)) rfl ?_
    refine mEnds.brF (q' := (10, [some (.int x1), some (.int 0), some (.int 3)], [], hC0, 0, 0)) rfl f1 rfl ?_
    refine mEnds.steps 2 (q' := (15, [some (.int x1), some (.int 0), some (.int 3)], [.int 1], hC0, 0, 0)) rfl ?_
    exact mEnds.ret rfl
  show mEnds [] 20 102 (6, [some (.ref 1), some (.int x1), some (.int x2), some (.int x3), some (.int x4), none, none, none, none, none, none], [.int 1], hC0, 0, 0) _
  refine mEnds.steps 4 (q' := (12, [some (.ref 1), some (.int x1), some (.int x2), some (.int x3), some (.int x4), none, none, none, none, none, none], [.int 2, .int 0, .int x2], hC0, 0, 0)) rfl ?_
  refine mEnds.call (d := 19) (y' := 105) (as := [.int x2, .int 0, .int 2]) (q' := (15, [some (.ref 1), some (.int x1), some (.int x2), some (.int x3), some (.int x4), none, none, none, none, none, none], [], hC0, 0, 0)) (v := some (.int 0)) (hs' := hC0) (c' := 0) (s' := 0) rfl rfl ?_ ?_
  · refine mEnds.steps 2 (q' := (2, [some (.int x2), some (.int 0), some (.int 2)], [.int 0, .int x2], hC0, 0, 0)) rfl ?_
    refine mEnds.brF (q' := (5, [some (.int x2), some (.int 0), some (.int 2)], [], hC0, 0, 0)) rfl f2 rfl ?_
    refine mEnds.steps 2 (q' := (7, [some (.int x2), some (.int 0), some (.int 2)], [.int 2, .int x2], hC0, 0, 0)) rfl ?_
    refine mEnds.brT (q' := (14, [some (.int x2), some (.int 0), some (.int 2)], [], hC0, 0, 0)) rfl f3 rfl ?_
    refine mEnds.steps 1 (q' := (15, [some (.int x2), some (.int 0), some (.int 2)], [.int 0], hC0, 0, 0)) rfl ?_
    exact mEnds.ret rfl
  show mEnds [] 20 102 (15, [some (.ref 1), some (.int x1), some (.int x2), some (.int x3), some (.int x4), none, none, none, none, none, none], [.int 0], hC0, 0, 0) _
  refine mEnds.steps 2 (q' := (30, [some (.ref 1), some (.int x1), some (.int x2), some (.int x3), some (.int x4), none, none, none, none, none, none], [.int (-1)], hC0, 0, 0)) rfl ?_
  exact mEnds.ret rfl
set_option maxRecDepth 100000 in
theorem m36_FFFT (x1 x2 x3 x4 : Int32) (f0 : decide (x1 < 0) = false) (f1 : decide (3 < x1) = false) (f2 : decide (x2 < 0) = false) (f3 : decide (2 < x2) = true) : ∃ hs', mEnds [] 20 181 (mentry 181 [.ref 1, .int x1, .int x2, .int x3, .int x4] hM0) (some (.int (-1)), hs', 0, 0) := by
  refine ⟨hM0, ?_⟩
  refine mEnds.steps 4 (q' := (6, [some (.ref 1), some (.int x1), some (.int x2), some (.int x3), some (.int x4), none, none, none, none, none], [.long 3, .long 0, .long x1.toInt64], hM0, 0, 0)) rfl ?_
  refine mEnds.call (d := 19) (y' := 111) (as := [.long x1.toInt64, .long 0, .long 3]) (q' := (9, [some (.ref 1), some (.int x1), some (.int x2), some (.int x3), some (.int x4), none, none, none, none, none], [], hM0, 0, 0)) (v := some (.int 1)) (hs' := hM0) (c' := 0) (s' := 0) rfl rfl ?_ ?_
  · refine mEnds.steps 3 (q' := (3, [some (.long x1.toInt64), none, some (.long 0), none, some (.long 3), none], [.int (lg_cmp x1.toInt64 0)], hM0, 0, 0)) rfl ?_
    refine mEnds.brF (q' := (6, [some (.long x1.toInt64), none, some (.long 0), none, some (.long 3), none], [], hM0, 0, 0)) rfl (lgc_lt (c := 0) (by decide) f0) rfl ?_
    refine mEnds.steps 3 (q' := (10, [some (.long x1.toInt64), none, some (.long 0), none, some (.long 3), none], [.int (lg_cmp x1.toInt64 3)], hM0, 0, 0)) rfl ?_
    refine mEnds.brF (q' := (13, [some (.long x1.toInt64), none, some (.long 0), none, some (.long 3), none], [], hM0, 0, 0)) rfl (lgc_gt (c := 3) (by decide) f1) rfl ?_
    refine mEnds.steps 2 (q' := (18, [some (.long x1.toInt64), none, some (.long 0), none, some (.long 3), none], [.int 1], hM0, 0, 0)) rfl ?_
    exact mEnds.ret rfl
  show mEnds [] 20 181 (9, [some (.ref 1), some (.int x1), some (.int x2), some (.int x3), some (.int x4), none, none, none, none, none], [.int 1], hM0, 0, 0) _
  refine mEnds.steps 5 (q' := (18, [some (.ref 1), some (.int x1), some (.int x2), some (.int x3), some (.int x4), none, none, none, none, none], [.long 2, .long 0, .long x2.toInt64], hM0, 0, 0)) rfl ?_
  refine mEnds.call (d := 19) (y' := 111) (as := [.long x2.toInt64, .long 0, .long 2]) (q' := (21, [some (.ref 1), some (.int x1), some (.int x2), some (.int x3), some (.int x4), none, none, none, none, none], [], hM0, 0, 0)) (v := some (.int 0)) (hs' := hM0) (c' := 0) (s' := 0) rfl rfl ?_ ?_
  · refine mEnds.steps 3 (q' := (3, [some (.long x2.toInt64), none, some (.long 0), none, some (.long 2), none], [.int (lg_cmp x2.toInt64 0)], hM0, 0, 0)) rfl ?_
    refine mEnds.brF (q' := (6, [some (.long x2.toInt64), none, some (.long 0), none, some (.long 2), none], [], hM0, 0, 0)) rfl (lgc_lt (c := 0) (by decide) f2) rfl ?_
    refine mEnds.steps 3 (q' := (10, [some (.long x2.toInt64), none, some (.long 0), none, some (.long 2), none], [.int (lg_cmp x2.toInt64 2)], hM0, 0, 0)) rfl ?_
    refine mEnds.brT (q' := (17, [some (.long x2.toInt64), none, some (.long 0), none, some (.long 2), none], [], hM0, 0, 0)) rfl (lgc_gt (c := 2) (by decide) f3) rfl ?_
    refine mEnds.steps 1 (q' := (18, [some (.long x2.toInt64), none, some (.long 0), none, some (.long 2), none], [.int 0], hM0, 0, 0)) rfl ?_
    exact mEnds.ret rfl
  show mEnds [] 20 181 (21, [some (.ref 1), some (.int x1), some (.int x2), some (.int x3), some (.int x4), none, none, none, none, none], [.int 0], hM0, 0, 0) _
  refine mEnds.steps 2 (q' := (38, [some (.ref 1), some (.int x1), some (.int x2), some (.int x3), some (.int x4), none, none, none, none, none], [.int (-1)], hM0, 0, 0)) rfl ?_
  exact mEnds.ret rfl
set_option maxRecDepth 100000 in
theorem c36_FFFFT (x1 x2 x3 x4 : Int32) (f0 : decide (x1 < 0) = false) (f1 : decide (3 < x1) = false) (f2 : decide (x2 < 0) = false) (f3 : decide (2 < x2) = false) (f4 : decide (x4 < 0) = true) : ∃ hs', mEnds [] 20 102 (mentry 102 [.ref 1, .int x1, .int x2, .int x3, .int x4] hC0) (some (.int (-1)), hs', 0, 0) := by
  refine ⟨hC0, ?_⟩
  refine mEnds.steps 3 (q' := (3, [some (.ref 1), some (.int x1), some (.int x2), some (.int x3), some (.int x4), none, none, none, none, none, none], [.int 3, .int 0, .int x1], hC0, 0, 0)) rfl ?_
  refine mEnds.call (d := 19) (y' := 105) (as := [.int x1, .int 0, .int 3]) (q' := (6, [some (.ref 1), some (.int x1), some (.int x2), some (.int x3), some (.int x4), none, none, none, none, none, none], [], hC0, 0, 0)) (v := some (.int 1)) (hs' := hC0) (c' := 0) (s' := 0) rfl rfl ?_ ?_
  · refine mEnds.steps 2 (q' := (2, [some (.int x1), some (.int 0), some (.int 3)], [.int 0, .int x1], hC0, 0, 0)) rfl ?_
    refine mEnds.brF (q' := (5, [some (.int x1), some (.int 0), some (.int 3)], [], hC0, 0, 0)) rfl f0 rfl ?_
    refine mEnds.steps 2 (q' := (7, [some (.int x1), some (.int 0), some (.int 3)], [.int 3, .int x1], hC0, 0, 0)) rfl ?_
    refine mEnds.brF (q' := (10, [some (.int x1), some (.int 0), some (.int 3)], [], hC0, 0, 0)) rfl f1 rfl ?_
    refine mEnds.steps 2 (q' := (15, [some (.int x1), some (.int 0), some (.int 3)], [.int 1], hC0, 0, 0)) rfl ?_
    exact mEnds.ret rfl
  show mEnds [] 20 102 (6, [some (.ref 1), some (.int x1), some (.int x2), some (.int x3), some (.int x4), none, none, none, none, none, none], [.int 1], hC0, 0, 0) _
  refine mEnds.steps 4 (q' := (12, [some (.ref 1), some (.int x1), some (.int x2), some (.int x3), some (.int x4), none, none, none, none, none, none], [.int 2, .int 0, .int x2], hC0, 0, 0)) rfl ?_
  refine mEnds.call (d := 19) (y' := 105) (as := [.int x2, .int 0, .int 2]) (q' := (15, [some (.ref 1), some (.int x1), some (.int x2), some (.int x3), some (.int x4), none, none, none, none, none, none], [], hC0, 0, 0)) (v := some (.int 1)) (hs' := hC0) (c' := 0) (s' := 0) rfl rfl ?_ ?_
  · refine mEnds.steps 2 (q' := (2, [some (.int x2), some (.int 0), some (.int 2)], [.int 0, .int x2], hC0, 0, 0)) rfl ?_
    refine mEnds.brF (q' := (5, [some (.int x2), some (.int 0), some (.int 2)], [], hC0, 0, 0)) rfl f2 rfl ?_
    refine mEnds.steps 2 (q' := (7, [some (.int x2), some (.int 0), some (.int 2)], [.int 2, .int x2], hC0, 0, 0)) rfl ?_
    refine mEnds.brF (q' := (10, [some (.int x2), some (.int 0), some (.int 2)], [], hC0, 0, 0)) rfl f3 rfl ?_
    refine mEnds.steps 2 (q' := (15, [some (.int x2), some (.int 0), some (.int 2)], [.int 1], hC0, 0, 0)) rfl ?_
    exact mEnds.ret rfl
  show mEnds [] 20 102 (15, [some (.ref 1), some (.int x1), some (.int x2), some (.int x3), some (.int x4), none, none, none, none, none, none], [.int 1], hC0, 0, 0) _
  refine mEnds.steps 4 (q' := (23, [some (.ref 1), some (.int x1), some (.int x2), some (.int x3), some (.int x4), none, none, none, none, none, none], [.int 20, .int 0, .int x4], hC0, 0, 0)) rfl ?_
  refine mEnds.call (d := 19) (y' := 105) (as := [.int x4, .int 0, .int 20]) (q' := (26, [some (.ref 1), some (.int x1), some (.int x2), some (.int x3), some (.int x4), none, none, none, none, none, none], [], hC0, 0, 0)) (v := some (.int 0)) (hs' := hC0) (c' := 0) (s' := 0) rfl rfl ?_ ?_
  · refine mEnds.steps 2 (q' := (2, [some (.int x4), some (.int 0), some (.int 20)], [.int 0, .int x4], hC0, 0, 0)) rfl ?_
    refine mEnds.brT (q' := (14, [some (.int x4), some (.int 0), some (.int 20)], [], hC0, 0, 0)) rfl f4 rfl ?_
    refine mEnds.steps 1 (q' := (15, [some (.int x4), some (.int 0), some (.int 20)], [.int 0], hC0, 0, 0)) rfl ?_
    exact mEnds.ret rfl
  show mEnds [] 20 102 (26, [some (.ref 1), some (.int x1), some (.int x2), some (.int x3), some (.int x4), none, none, none, none, none, none], [.int 0], hC0, 0, 0) _
  refine mEnds.steps 2 (q' := (30, [some (.ref 1), some (.int x1), some (.int x2), some (.int x3), some (.int x4), none, none, none, none, none, none], [.int (-1)], hC0, 0, 0)) rfl ?_
  exact mEnds.ret rfl
set_option maxRecDepth 100000 in
theorem m36_FFFFT (x1 x2 x3 x4 : Int32) (f0 : decide (x1 < 0) = false) (f1 : decide (3 < x1) = false) (f2 : decide (x2 < 0) = false) (f3 : decide (2 < x2) = false) (f4 : decide (x4 < 0) = true) : ∃ hs', mEnds [] 20 181 (mentry 181 [.ref 1, .int x1, .int x2, .int x3, .int x4] hM0) (some (.int (-1)), hs', 0, 0) := by
  refine ⟨hM0, ?_⟩
  refine mEnds.steps 4 (q' := (6, [some (.ref 1), some (.int x1), some (.int x2), some (.int x3), some (.int x4), none, none, none, none, none], [.long 3, .long 0, .long x1.toInt64], hM0, 0, 0)) rfl ?_
  refine mEnds.call (d := 19) (y' := 111) (as := [.long x1.toInt64, .long 0, .long 3]) (q' := (9, [some (.ref 1), some (.int x1), some (.int x2), some (.int x3), some (.int x4), none, none, none, none, none], [], hM0, 0, 0)) (v := some (.int 1)) (hs' := hM0) (c' := 0) (s' := 0) rfl rfl ?_ ?_
  · refine mEnds.steps 3 (q' := (3, [some (.long x1.toInt64), none, some (.long 0), none, some (.long 3), none], [.int (lg_cmp x1.toInt64 0)], hM0, 0, 0)) rfl ?_
    refine mEnds.brF (q' := (6, [some (.long x1.toInt64), none, some (.long 0), none, some (.long 3), none], [], hM0, 0, 0)) rfl (lgc_lt (c := 0) (by decide) f0) rfl ?_
    refine mEnds.steps 3 (q' := (10, [some (.long x1.toInt64), none, some (.long 0), none, some (.long 3), none], [.int (lg_cmp x1.toInt64 3)], hM0, 0, 0)) rfl ?_
    refine mEnds.brF (q' := (13, [some (.long x1.toInt64), none, some (.long 0), none, some (.long 3), none], [], hM0, 0, 0)) rfl (lgc_gt (c := 3) (by decide) f1) rfl ?_
    refine mEnds.steps 2 (q' := (18, [some (.long x1.toInt64), none, some (.long 0), none, some (.long 3), none], [.int 1], hM0, 0, 0)) rfl ?_
    exact mEnds.ret rfl
  show mEnds [] 20 181 (9, [some (.ref 1), some (.int x1), some (.int x2), some (.int x3), some (.int x4), none, none, none, none, none], [.int 1], hM0, 0, 0) _
  refine mEnds.steps 5 (q' := (18, [some (.ref 1), some (.int x1), some (.int x2), some (.int x3), some (.int x4), none, none, none, none, none], [.long 2, .long 0, .long x2.toInt64], hM0, 0, 0)) rfl ?_
  refine mEnds.call (d := 19) (y' := 111) (as := [.long x2.toInt64, .long 0, .long 2]) (q' := (21, [some (.ref 1), some (.int x1), some (.int x2), some (.int x3), some (.int x4), none, none, none, none, none], [], hM0, 0, 0)) (v := some (.int 1)) (hs' := hM0) (c' := 0) (s' := 0) rfl rfl ?_ ?_
  · refine mEnds.steps 3 (q' := (3, [some (.long x2.toInt64), none, some (.long 0), none, some (.long 2), none], [.int (lg_cmp x2.toInt64 0)], hM0, 0, 0)) rfl ?_
    refine mEnds.brF (q' := (6, [some (.long x2.toInt64), none, some (.long 0), none, some (.long 2), none], [], hM0, 0, 0)) rfl (lgc_lt (c := 0) (by decide) f2) rfl ?_
    refine mEnds.steps 3 (q' := (10, [some (.long x2.toInt64), none, some (.long 0), none, some (.long 2), none], [.int (lg_cmp x2.toInt64 2)], hM0, 0, 0)) rfl ?_
    refine mEnds.brF (q' := (13, [some (.long x2.toInt64), none, some (.long 0), none, some (.long 2), none], [], hM0, 0, 0)) rfl (lgc_gt (c := 2) (by decide) f3) rfl ?_
    refine mEnds.steps 2 (q' := (18, [some (.long x2.toInt64), none, some (.long 0), none, some (.long 2), none], [.int 1], hM0, 0, 0)) rfl ?_
    exact mEnds.ret rfl
  show mEnds [] 20 181 (21, [some (.ref 1), some (.int x1), some (.int x2), some (.int x3), some (.int x4), none, none, none, none, none], [.int 1], hM0, 0, 0) _
  refine mEnds.steps 5 (q' := (31, [some (.ref 1), some (.int x1), some (.int x2), some (.int x3), some (.int x4), none, none, none, none, none], [.long 20, .long 0, .long x4.toInt64], hM0, 0, 0)) rfl ?_
  refine mEnds.call (d := 19) (y' := 111) (as := [.long x4.toInt64, .long 0, .long 20]) (q' := (34, [some (.ref 1), some (.int x1), some (.int x2), some (.int x3), some (.int x4), none, none, none, none, none], [], hM0, 0, 0)) (v := some (.int 0)) (hs' := hM0) (c' := 0) (s' := 0) rfl rfl ?_ ?_
  · refine mEnds.steps 3 (q' := (3, [some (.long x4.toInt64), none, some (.long 0), none, some (.long 20), none], [.int (lg_cmp x4.toInt64 0)], hM0, 0, 0)) rfl ?_
    refine mEnds.brT (q' := (17, [some (.long x4.toInt64), none, some (.long 0), none, some (.long 20), none], [], hM0, 0, 0)) rfl (lgc_lt (c := 0) (by decide) f4) rfl ?_
    refine mEnds.steps 1 (q' := (18, [some (.long x4.toInt64), none, some (.long 0), none, some (.long 20), none], [.int 0], hM0, 0, 0)) rfl ?_
    exact mEnds.ret rfl
  show mEnds [] 20 181 (34, [some (.ref 1), some (.int x1), some (.int x2), some (.int x3), some (.int x4), none, none, none, none, none], [.int 0], hM0, 0, 0) _
  refine mEnds.steps 2 (q' := (38, [some (.ref 1), some (.int x1), some (.int x2), some (.int x3), some (.int x4), none, none, none, none, none], [.int (-1)], hM0, 0, 0)) rfl ?_
  exact mEnds.ret rfl
set_option maxRecDepth 100000 in
theorem c36_FFFFFT (x1 x2 x3 x4 : Int32) (f0 : decide (x1 < 0) = false) (f1 : decide (3 < x1) = false) (f2 : decide (x2 < 0) = false) (f3 : decide (2 < x2) = false) (f4 : decide (x4 < 0) = false) (f5 : decide (20 < x4) = true) : ∃ hs', mEnds [] 20 102 (mentry 102 [.ref 1, .int x1, .int x2, .int x3, .int x4] hC0) (some (.int (-1)), hs', 0, 0) := by
  refine ⟨hC0, ?_⟩
  refine mEnds.steps 3 (q' := (3, [some (.ref 1), some (.int x1), some (.int x2), some (.int x3), some (.int x4), none, none, none, none, none, none], [.int 3, .int 0, .int x1], hC0, 0, 0)) rfl ?_
  refine mEnds.call (d := 19) (y' := 105) (as := [.int x1, .int 0, .int 3]) (q' := (6, [some (.ref 1), some (.int x1), some (.int x2), some (.int x3), some (.int x4), none, none, none, none, none, none], [], hC0, 0, 0)) (v := some (.int 1)) (hs' := hC0) (c' := 0) (s' := 0) rfl rfl ?_ ?_
  · refine mEnds.steps 2 (q' := (2, [some (.int x1), some (.int 0), some (.int 3)], [.int 0, .int x1], hC0, 0, 0)) rfl ?_
    refine mEnds.brF (q' := (5, [some (.int x1), some (.int 0), some (.int 3)], [], hC0, 0, 0)) rfl f0 rfl ?_
    refine mEnds.steps 2 (q' := (7, [some (.int x1), some (.int 0), some (.int 3)], [.int 3, .int x1], hC0, 0, 0)) rfl ?_
    refine mEnds.brF (q' := (10, [some (.int x1), some (.int 0), some (.int 3)], [], hC0, 0, 0)) rfl f1 rfl ?_
    refine mEnds.steps 2 (q' := (15, [some (.int x1), some (.int 0), some (.int 3)], [.int 1], hC0, 0, 0)) rfl ?_
    exact mEnds.ret rfl
  show mEnds [] 20 102 (6, [some (.ref 1), some (.int x1), some (.int x2), some (.int x3), some (.int x4), none, none, none, none, none, none], [.int 1], hC0, 0, 0) _
  refine mEnds.steps 4 (q' := (12, [some (.ref 1), some (.int x1), some (.int x2), some (.int x3), some (.int x4), none, none, none, none, none, none], [.int 2, .int 0, .int x2], hC0, 0, 0)) rfl ?_
  refine mEnds.call (d := 19) (y' := 105) (as := [.int x2, .int 0, .int 2]) (q' := (15, [some (.ref 1), some (.int x1), some (.int x2), some (.int x3), some (.int x4), none, none, none, none, none, none], [], hC0, 0, 0)) (v := some (.int 1)) (hs' := hC0) (c' := 0) (s' := 0) rfl rfl ?_ ?_
  · refine mEnds.steps 2 (q' := (2, [some (.int x2), some (.int 0), some (.int 2)], [.int 0, .int x2], hC0, 0, 0)) rfl ?_
    refine mEnds.brF (q' := (5, [some (.int x2), some (.int 0), some (.int 2)], [], hC0, 0, 0)) rfl f2 rfl ?_
    refine mEnds.steps 2 (q' := (7, [some (.int x2), some (.int 0), some (.int 2)], [.int 2, .int x2], hC0, 0, 0)) rfl ?_
    refine mEnds.brF (q' := (10, [some (.int x2), some (.int 0), some (.int 2)], [], hC0, 0, 0)) rfl f3 rfl ?_
    refine mEnds.steps 2 (q' := (15, [some (.int x2), some (.int 0), some (.int 2)], [.int 1], hC0, 0, 0)) rfl ?_
    exact mEnds.ret rfl
  show mEnds [] 20 102 (15, [some (.ref 1), some (.int x1), some (.int x2), some (.int x3), some (.int x4), none, none, none, none, none, none], [.int 1], hC0, 0, 0) _
  refine mEnds.steps 4 (q' := (23, [some (.ref 1), some (.int x1), some (.int x2), some (.int x3), some (.int x4), none, none, none, none, none, none], [.int 20, .int 0, .int x4], hC0, 0, 0)) rfl ?_
  refine mEnds.call (d := 19) (y' := 105) (as := [.int x4, .int 0, .int 20]) (q' := (26, [some (.ref 1), some (.int x1), some (.int x2), some (.int x3), some (.int x4), none, none, none, none, none, none], [], hC0, 0, 0)) (v := some (.int 0)) (hs' := hC0) (c' := 0) (s' := 0) rfl rfl ?_ ?_
  · refine mEnds.steps 2 (q' := (2, [some (.int x4), some (.int 0), some (.int 20)], [.int 0, .int x4], hC0, 0, 0)) rfl ?_
    refine mEnds.brF (q' := (5, [some (.int x4), some (.int 0), some (.int 20)], [], hC0, 0, 0)) rfl f4 rfl ?_
    refine mEnds.steps 2 (q' := (7, [some (.int x4), some (.int 0), some (.int 20)], [.int 20, .int x4], hC0, 0, 0)) rfl ?_
    refine mEnds.brT (q' := (14, [some (.int x4), some (.int 0), some (.int 20)], [], hC0, 0, 0)) rfl f5 rfl ?_
    refine mEnds.steps 1 (q' := (15, [some (.int x4), some (.int 0), some (.int 20)], [.int 0], hC0, 0, 0)) rfl ?_
    exact mEnds.ret rfl
  show mEnds [] 20 102 (26, [some (.ref 1), some (.int x1), some (.int x2), some (.int x3), some (.int x4), none, none, none, none, none, none], [.int 0], hC0, 0, 0) _
  refine mEnds.steps 2 (q' := (30, [some (.ref 1), some (.int x1), some (.int x2), some (.int x3), some (.int x4), none, none, none, none, none, none], [.int (-1)], hC0, 0, 0)) rfl ?_
  exact mEnds.ret rfl
set_option maxRecDepth 100000 in
theorem m36_FFFFFT (x1 x2 x3 x4 : Int32) (f0 : decide (x1 < 0) = false) (f1 : decide (3 < x1) = false) (f2 : decide (x2 < 0) = false) (f3 : decide (2 < x2) = false) (f4 : decide (x4 < 0) = false) (f5 : decide (20 < x4) = true) : ∃ hs', mEnds [] 20 181 (mentry 181 [.ref 1, .int x1, .int x2, .int x3, .int x4] hM0) (some (.int (-1)), hs', 0, 0) := by
  refine ⟨hM0, ?_⟩
  refine mEnds.steps 4 (q' := (6, [some (.ref 1), some (.int x1), some (.int x2), some (.int x3), some (.int x4), none, none, none, none, none], [.long 3, .long 0, .long x1.toInt64], hM0, 0, 0)) rfl ?_
  refine mEnds.call (d := 19) (y' := 111) (as := [.long x1.toInt64, .long 0, .long 3]) (q' := (9, [some (.ref 1), some (.int x1), some (.int x2), some (.int x3), some (.int x4), none, none, none, none, none], [], hM0, 0, 0)) (v := some (.int 1)) (hs' := hM0) (c' := 0) (s' := 0) rfl rfl ?_ ?_
  · refine mEnds.steps 3 (q' := (3, [some (.long x1.toInt64), none, some (.long 0), none, some (.long 3), none], [.int (lg_cmp x1.toInt64 0)], hM0, 0, 0)) rfl ?_
    refine mEnds.brF (q' := (6, [some (.long x1.toInt64), none, some (.long 0), none, some (.long 3), none], [], hM0, 0, 0)) rfl (lgc_lt (c := 0) (by decide) f0) rfl ?_
    refine mEnds.steps 3 (q' := (10, [some (.long x1.toInt64), none, some (.long 0), none, some (.long 3), none], [.int (lg_cmp x1.toInt64 3)], hM0, 0, 0)) rfl ?_
    refine mEnds.brF (q' := (13, [some (.long x1.toInt64), none, some (.long 0), none, some (.long 3), none], [], hM0, 0, 0)) rfl (lgc_gt (c := 3) (by decide) f1) rfl ?_
    refine mEnds.steps 2 (q' := (18, [some (.long x1.toInt64), none, some (.long 0), none, some (.long 3), none], [.int 1], hM0, 0, 0)) rfl ?_
    exact mEnds.ret rfl
  show mEnds [] 20 181 (9, [some (.ref 1), some (.int x1), some (.int x2), some (.int x3), some (.int x4), none, none, none, none, none], [.int 1], hM0, 0, 0) _
  refine mEnds.steps 5 (q' := (18, [some (.ref 1), some (.int x1), some (.int x2), some (.int x3), some (.int x4), none, none, none, none, none], [.long 2, .long 0, .long x2.toInt64], hM0, 0, 0)) rfl ?_
  refine mEnds.call (d := 19) (y' := 111) (as := [.long x2.toInt64, .long 0, .long 2]) (q' := (21, [some (.ref 1), some (.int x1), some (.int x2), some (.int x3), some (.int x4), none, none, none, none, none], [], hM0, 0, 0)) (v := some (.int 1)) (hs' := hM0) (c' := 0) (s' := 0) rfl rfl ?_ ?_
  · refine mEnds.steps 3 (q' := (3, [some (.long x2.toInt64), none, some (.long 0), none, some (.long 2), none], [.int (lg_cmp x2.toInt64 0)], hM0, 0, 0)) rfl ?_
    refine mEnds.brF (q' := (6, [some (.long x2.toInt64), none, some (.long 0), none, some (.long 2), none], [], hM0, 0, 0)) rfl (lgc_lt (c := 0) (by decide) f2) rfl ?_
    refine mEnds.steps 3 (q' := (10, [some (.long x2.toInt64), none, some (.long 0), none, some (.long 2), none], [.int (lg_cmp x2.toInt64 2)], hM0, 0, 0)) rfl ?_
    refine mEnds.brF (q' := (13, [some (.long x2.toInt64), none, some (.long 0), none, some (.long 2), none], [], hM0, 0, 0)) rfl (lgc_gt (c := 2) (by decide) f3) rfl ?_
    refine mEnds.steps 2 (q' := (18, [some (.long x2.toInt64), none, some (.long 0), none, some (.long 2), none], [.int 1], hM0, 0, 0)) rfl ?_
    exact mEnds.ret rfl
  show mEnds [] 20 181 (21, [some (.ref 1), some (.int x1), some (.int x2), some (.int x3), some (.int x4), none, none, none, none, none], [.int 1], hM0, 0, 0) _
  refine mEnds.steps 5 (q' := (31, [some (.ref 1), some (.int x1), some (.int x2), some (.int x3), some (.int x4), none, none, none, none, none], [.long 20, .long 0, .long x4.toInt64], hM0, 0, 0)) rfl ?_
  refine mEnds.call (d := 19) (y' := 111) (as := [.long x4.toInt64, .long 0, .long 20]) (q' := (34, [some (.ref 1), some (.int x1), some (.int x2), some (.int x3), some (.int x4), none, none, none, none, none], [], hM0, 0, 0)) (v := some (.int 0)) (hs' := hM0) (c' := 0) (s' := 0) rfl rfl ?_ ?_
  · refine mEnds.steps 3 (q' := (3, [some (.long x4.toInt64), none, some (.long 0), none, some (.long 20), none], [.int (lg_cmp x4.toInt64 0)], hM0, 0, 0)) rfl ?_
    refine mEnds.brF (q' := (6, [some (.long x4.toInt64), none, some (.long 0), none, some (.long 20), none], [], hM0, 0, 0)) rfl (lgc_lt (c := 0) (by decide) f4) rfl ?_
    refine mEnds.steps 3 (q' := (10, [some (.long x4.toInt64), none, some (.long 0), none, some (.long 20), none], [.int (lg_cmp x4.toInt64 20)], hM0, 0, 0)) rfl ?_
    refine mEnds.brT (q' := (17, [some (.long x4.toInt64), none, some (.long 0), none, some (.long 20), none], [], hM0, 0, 0)) rfl (lgc_gt (c := 20) (by decide) f5) rfl ?_
    refine mEnds.steps 1 (q' := (18, [some (.long x4.toInt64), none, some (.long 0), none, some (.long 20), none], [.int 0], hM0, 0, 0)) rfl ?_
    exact mEnds.ret rfl
  show mEnds [] 20 181 (34, [some (.ref 1), some (.int x1), some (.int x2), some (.int x3), some (.int x4), none, none, none, none, none], [.int 0], hM0, 0, 0) _
  refine mEnds.steps 2 (q' := (38, [some (.ref 1), some (.int x1), some (.int x2), some (.int x3), some (.int x4), none, none, none, none, none], [.int (-1)], hM0, 0, 0)) rfl ?_
  exact mEnds.ret rfl
set_option maxRecDepth 100000 in
theorem c36_FFFFFFv0TT (x2 x3 x4 : Int32) (f2 : decide (x2 < 0) = false) (f3 : decide (2 < x2) = false) (f4 : decide (x4 < 0) = false) (f5 : decide (20 < x4) = false) (f6 : decide (0 < x4) = true) (f7 : decide (1 < x4) = true) : ∃ hs', mEnds [] 20 102 (mentry 102 [.ref 1, .int 0, .int x2, .int x3, .int x4] hC0) (some (.int 0), hs', 0, 0) := by
  refine ⟨(hC0.set 1 (.inr (4, [.ref 2, .ref 10, .ref 11, .ref 12, .ref 13, .ref 14, .ref 18, .int 1]))), ?_⟩
  refine mEnds.steps 3 (q' := (3, [some (.ref 1), some (.int 0), some (.int x2), some (.int x3), some (.int x4), none, none, none, none, none, none], [.int 3, .int 0, .int 0], hC0, 0, 0)) rfl ?_
  refine mEnds.call (d := 19) (y' := 105) (as := [.int 0, .int 0, .int 3]) (q' := (6, [some (.ref 1), some (.int 0), some (.int x2), some (.int x3), some (.int x4), none, none, none, none, none, none], [], hC0, 0, 0)) (v := some (.int 1)) (hs' := hC0) (c' := 0) (s' := 0) rfl rfl ?_ ?_
  · refine mEnds.steps 8 (q' := (15, [some (.int 0), some (.int 0), some (.int 3)], [.int 1], hC0, 0, 0)) rfl ?_
    exact mEnds.ret rfl
  show mEnds [] 20 102 (6, [some (.ref 1), some (.int 0), some (.int x2), some (.int x3), some (.int x4), none, none, none, none, none, none], [.int 1], hC0, 0, 0) _
  refine mEnds.steps 4 (q' := (12, [some (.ref 1), some (.int 0), some (.int x2), some (.int x3), some (.int x4), none, none, none, none, none, none], [.int 2, .int 0, .int x2], hC0, 0, 0)) rfl ?_
  refine mEnds.call (d := 19) (y' := 105) (as := [.int x2, .int 0, .int 2]) (q' := (15, [some (.ref 1), some (.int 0), some (.int x2), some (.int x3), some (.int x4), none, none, none, none, none, none], [], hC0, 0, 0)) (v := some (.int 1)) (hs' := hC0) (c' := 0) (s' := 0) rfl rfl ?_ ?_
  · refine mEnds.steps 2 (q' := (2, [some (.int x2), some (.int 0), some (.int 2)], [.int 0, .int x2], hC0, 0, 0)) rfl ?_
    refine mEnds.brF (q' := (5, [some (.int x2), some (.int 0), some (.int 2)], [], hC0, 0, 0)) rfl f2 rfl ?_
    refine mEnds.steps 2 (q' := (7, [some (.int x2), some (.int 0), some (.int 2)], [.int 2, .int x2], hC0, 0, 0)) rfl ?_
    refine mEnds.brF (q' := (10, [some (.int x2), some (.int 0), some (.int 2)], [], hC0, 0, 0)) rfl f3 rfl ?_
    refine mEnds.steps 2 (q' := (15, [some (.int x2), some (.int 0), some (.int 2)], [.int 1], hC0, 0, 0)) rfl ?_
    exact mEnds.ret rfl
  show mEnds [] 20 102 (15, [some (.ref 1), some (.int 0), some (.int x2), some (.int x3), some (.int x4), none, none, none, none, none, none], [.int 1], hC0, 0, 0) _
  refine mEnds.steps 4 (q' := (23, [some (.ref 1), some (.int 0), some (.int x2), some (.int x3), some (.int x4), none, none, none, none, none, none], [.int 20, .int 0, .int x4], hC0, 0, 0)) rfl ?_
  refine mEnds.call (d := 19) (y' := 105) (as := [.int x4, .int 0, .int 20]) (q' := (26, [some (.ref 1), some (.int 0), some (.int x2), some (.int x3), some (.int x4), none, none, none, none, none, none], [], hC0, 0, 0)) (v := some (.int 1)) (hs' := hC0) (c' := 0) (s' := 0) rfl rfl ?_ ?_
  · refine mEnds.steps 2 (q' := (2, [some (.int x4), some (.int 0), some (.int 20)], [.int 0, .int x4], hC0, 0, 0)) rfl ?_
    refine mEnds.brF (q' := (5, [some (.int x4), some (.int 0), some (.int 20)], [], hC0, 0, 0)) rfl f4 rfl ?_
    refine mEnds.steps 2 (q' := (7, [some (.int x4), some (.int 0), some (.int 20)], [.int 20, .int x4], hC0, 0, 0)) rfl ?_
    refine mEnds.brF (q' := (10, [some (.int x4), some (.int 0), some (.int 20)], [], hC0, 0, 0)) rfl f5 rfl ?_
    refine mEnds.steps 2 (q' := (15, [some (.int x4), some (.int 0), some (.int 20)], [.int 1], hC0, 0, 0)) rfl ?_
    exact mEnds.ret rfl
  show mEnds [] 20 102 (26, [some (.ref 1), some (.int 0), some (.int x2), some (.int x3), some (.int x4), none, none, none, none, none, none], [.int 1], hC0, 0, 0) _
  refine mEnds.steps 7 (q' := (40, [some (.ref 1), some (.int 0), some (.int x2), some (.int x3), some (.int x4), some (.ref 124), none, none, none, none, none], [.ref 1], hC0, 0, 0)) rfl ?_
  refine mEnds.call (d := 19) (y' := 109) (as := [.ref 1]) (q' := (43, [some (.ref 1), some (.int 0), some (.int x2), some (.int x3), some (.int x4), some (.ref 124), none, none, none, none, none], [], hC0, 0, 0)) (v := some (.ref 44)) (hs' := hC0) (c' := 0) (s' := 0) rfl rfl ?_ ?_
  · exact mEnds.deep cpn 9
  show mEnds [] 20 102 (43, [some (.ref 1), some (.int 0), some (.int x2), some (.int x3), some (.int x4), some (.ref 124), none, none, none, none, none], [.ref 44], hC0, 0, 0) _
  refine mEnds.steps 9 (q' := (58, [some (.ref 1), some (.int 0), some (.int x2), some (.int x3), some (.int x4), some (.ref 124), some (.ref 44), some (.int 0), some (.int 0), some (.int 0), none], [.int x4, .int 0], hC0, 0, 0)) rfl ?_
  refine mEnds.brF (q' := (61, [some (.ref 1), some (.int 0), some (.int x2), some (.int x3), some (.int x4), some (.ref 124), some (.ref 44), some (.int 0), some (.int 0), some (.int 0), none], [], hC0, 0, 0)) rfl (mtk_ge f6) rfl ?_
  refine mEnds.steps 11 (q' := (79, [some (.ref 1), some (.int 0), some (.int x2), some (.int x3), some (.int x4), some (.ref 124), some (.ref 44), some (.int 0), some (.int 0), some (.int 0), some (.int (x3 + 0))], [.int (x3 + 0), .int x2, .ref 124], hC0, 0, 0)) rfl ?_
  refine mEnds.call (d := 19) (y' := 34) (as := [.ref 124, .int x2, .int (x3 + 0)]) (q' := (82, [some (.ref 1), some (.int 0), some (.int x2), some (.int x3), some (.int x4), some (.ref 124), some (.ref 44), some (.int 0), some (.int 0), some (.int 0), some (.int (x3 + 0))], [], hC0, 0, 0)) (v := some (.int 1)) (hs' := hC0) (c' := 0) (s' := 0) rfl rfl ?_ ?_
  · refine mEnds.steps 3 (q' := (3, [some (.ref 124), some (.int x2), some (.int (x3 + 0)), none], [.int (x3 + 0), .int x2, .ref 124], hC0, 0, 0)) rfl ?_
    refine mEnds.call (d := 18) (y' := 33) (as := [.ref 124, .int x2, .int (x3 + 0)]) (q' := (6, [some (.ref 124), some (.int x2), some (.int (x3 + 0)), none], [], hC0, 0, 0)) (v := some (.int 1)) (hs' := hC0) (c' := 0) (s' := 0) rfl rfl ?_ ?_
    · refine mEnds.steps 1 (q' := (1, [some (.ref 124), some (.int x2), some (.int (x3 + 0))], [.ref 124], hC0, 0, 0)) rfl ?_
      refine mEnds.call (d := 17) (y' := 30) (as := [.ref 124]) (q' := (4, [some (.ref 124), some (.int x2), some (.int (x3 + 0))], [], hC0, 0, 0)) (v := some (.int 0)) (hs' := hC0) (c' := 0) (s' := 0) rfl rfl ?_ ?_
      · refine mEnds.steps 5 (q' := (13, [some (.ref 124)], [.int 0], hC0, 0, 0)) rfl ?_
        exact mEnds.ret rfl
      show mEnds [] 18 33 (4, [some (.ref 124), some (.int x2), some (.int (x3 + 0))], [.int 0], hC0, 0, 0) _
      refine mEnds.steps 2 (q' := (8, [some (.ref 124), some (.int x2), some (.int (x3 + 0))], [.int 1], hC0, 0, 0)) rfl ?_
      exact mEnds.ret rfl
    show mEnds [] 19 34 (6, [some (.ref 124), some (.int x2), some (.int (x3 + 0)), none], [.int 1], hC0, 0, 0) _
    refine mEnds.steps 5 (q' := (23, [some (.ref 124), some (.int x2), some (.int (x3 + 0)), some (.int 1)], [.int 1], hC0, 0, 0)) rfl ?_
    exact mEnds.ret rfl
  show mEnds [] 20 102 (82, [some (.ref 1), some (.int 0), some (.int x2), some (.int x3), some (.int x4), some (.ref 124), some (.ref 44), some (.int 0), some (.int 0), some (.int 0), some (.int (x3 + 0))], [.int 1], hC0, 0, 0) _
  refine mEnds.steps 7 (q' := (58, [some (.ref 1), some (.int 0), some (.int x2), some (.int x3), some (.int x4), some (.ref 124), some (.ref 44), some (.int 1), some (.int 0), some (.int 1), some (.int (x3 + 0))], [.int x4, .int 1], hC0, 0, 0)) rfl ?_
  refine mEnds.brF (q' := (61, [some (.ref 1), some (.int 0), some (.int x2), some (.int x3), some (.int x4), some (.ref 124), some (.ref 44), some (.int 1), some (.int 0), some (.int 1), some (.int (x3 + 0))], [], hC0, 0, 0)) rfl (mtk_ge f7) rfl ?_
  refine mEnds.steps 5 (q' := (136, [some (.ref 1), some (.int 0), some (.int x2), some (.int x3), some (.int x4), some (.ref 124), some (.ref 44), some (.int 1), some (.int 0), some (.int 1), some (.int (x3 + 0))], [.ref 44, .ref 2], hC0, 0, 0)) rfl ?_
  refine mEnds.call (d := 19) (y' := 7) (as := [.ref 2, .ref 44]) (q' := (139, [some (.ref 1), some (.int 0), some (.int x2), some (.int x3), some (.int x4), some (.ref 124), some (.ref 44), some (.int 1), some (.int 0), some (.int 1), some (.int (x3 + 0))], [], hC0, 0, 0)) (v := none) (hs' := hC0) (c' := 0) (s' := 0) rfl rfl ?_ ?_
  · exact mEnds.deep cpf 9
  show mEnds [] 20 102 (139, [some (.ref 1), some (.int 0), some (.int x2), some (.int x3), some (.int x4), some (.ref 124), some (.ref 44), some (.int 1), some (.int 0), some (.int 1), some (.int (x3 + 0))], [], hC0, 0, 0) _
  refine mEnds.steps 4 (q' := (147, [some (.ref 1), some (.int 0), some (.int x2), some (.int x3), some (.int x4), some (.ref 124), some (.ref 44), some (.int 1), some (.int 0), some (.int 1), some (.int (x3 + 0))], [.int 0], (hC0.set 1 (.inr (4, [.ref 2, .ref 10, .ref 11, .ref 12, .ref 13, .ref 14, .ref 18, .int 1]))), 0, 0)) rfl ?_
  exact mEnds.ret rfl
set_option maxRecDepth 100000 in
theorem c36_FFFFFFv0TF (x2 x3 x4 : Int32) (f2 : decide (x2 < 0) = false) (f3 : decide (2 < x2) = false) (f4 : decide (x4 < 0) = false) (f5 : decide (20 < x4) = false) (f6 : decide (0 < x4) = true) (f7 : decide (1 < x4) = false) : ∃ hs', mEnds [] 20 102 (mentry 102 [.ref 1, .int 0, .int x2, .int x3, .int x4] hC0) (some (.int 0), hs', 0, 0) := by
  refine ⟨(hC0.set 1 (.inr (4, [.ref 2, .ref 10, .ref 11, .ref 12, .ref 13, .ref 14, .ref 18, .int 1]))), ?_⟩
  refine mEnds.steps 3 (q' := (3, [some (.ref 1), some (.int 0), some (.int x2), some (.int x3), some (.int x4), none, none, none, none, none, none], [.int 3, .int 0, .int 0], hC0, 0, 0)) rfl ?_
  refine mEnds.call (d := 19) (y' := 105) (as := [.int 0, .int 0, .int 3]) (q' := (6, [some (.ref 1), some (.int 0), some (.int x2), some (.int x3), some (.int x4), none, none, none, none, none, none], [], hC0, 0, 0)) (v := some (.int 1)) (hs' := hC0) (c' := 0) (s' := 0) rfl rfl ?_ ?_
  · refine mEnds.steps 8 (q' := (15, [some (.int 0), some (.int 0), some (.int 3)], [.int 1], hC0, 0, 0)) rfl ?_
    exact mEnds.ret rfl
  show mEnds [] 20 102 (6, [some (.ref 1), some (.int 0), some (.int x2), some (.int x3), some (.int x4), none, none, none, none, none, none], [.int 1], hC0, 0, 0) _
  refine mEnds.steps 4 (q' := (12, [some (.ref 1), some (.int 0), some (.int x2), some (.int x3), some (.int x4), none, none, none, none, none, none], [.int 2, .int 0, .int x2], hC0, 0, 0)) rfl ?_
  refine mEnds.call (d := 19) (y' := 105) (as := [.int x2, .int 0, .int 2]) (q' := (15, [some (.ref 1), some (.int 0), some (.int x2), some (.int x3), some (.int x4), none, none, none, none, none, none], [], hC0, 0, 0)) (v := some (.int 1)) (hs' := hC0) (c' := 0) (s' := 0) rfl rfl ?_ ?_
  · refine mEnds.steps 2 (q' := (2, [some (.int x2), some (.int 0), some (.int 2)], [.int 0, .int x2], hC0, 0, 0)) rfl ?_
    refine mEnds.brF (q' := (5, [some (.int x2), some (.int 0), some (.int 2)], [], hC0, 0, 0)) rfl f2 rfl ?_
    refine mEnds.steps 2 (q' := (7, [some (.int x2), some (.int 0), some (.int 2)], [.int 2, .int x2], hC0, 0, 0)) rfl ?_
    refine mEnds.brF (q' := (10, [some (.int x2), some (.int 0), some (.int 2)], [], hC0, 0, 0)) rfl f3 rfl ?_
    refine mEnds.steps 2 (q' := (15, [some (.int x2), some (.int 0), some (.int 2)], [.int 1], hC0, 0, 0)) rfl ?_
    exact mEnds.ret rfl
  show mEnds [] 20 102 (15, [some (.ref 1), some (.int 0), some (.int x2), some (.int x3), some (.int x4), none, none, none, none, none, none], [.int 1], hC0, 0, 0) _
  refine mEnds.steps 4 (q' := (23, [some (.ref 1), some (.int 0), some (.int x2), some (.int x3), some (.int x4), none, none, none, none, none, none], [.int 20, .int 0, .int x4], hC0, 0, 0)) rfl ?_
  refine mEnds.call (d := 19) (y' := 105) (as := [.int x4, .int 0, .int 20]) (q' := (26, [some (.ref 1), some (.int 0), some (.int x2), some (.int x3), some (.int x4), none, none, none, none, none, none], [], hC0, 0, 0)) (v := some (.int 1)) (hs' := hC0) (c' := 0) (s' := 0) rfl rfl ?_ ?_
  · refine mEnds.steps 2 (q' := (2, [some (.int x4), some (.int 0), some (.int 20)], [.int 0, .int x4], hC0, 0, 0)) rfl ?_
    refine mEnds.brF (q' := (5, [some (.int x4), some (.int 0), some (.int 20)], [], hC0, 0, 0)) rfl f4 rfl ?_
    refine mEnds.steps 2 (q' := (7, [some (.int x4), some (.int 0), some (.int 20)], [.int 20, .int x4], hC0, 0, 0)) rfl ?_
    refine mEnds.brF (q' := (10, [some (.int x4), some (.int 0), some (.int 20)], [], hC0, 0, 0)) rfl f5 rfl ?_
    refine mEnds.steps 2 (q' := (15, [some (.int x4), some (.int 0), some (.int 20)], [.int 1], hC0, 0, 0)) rfl ?_
    exact mEnds.ret rfl
  show mEnds [] 20 102 (26, [some (.ref 1), some (.int 0), some (.int x2), some (.int x3), some (.int x4), none, none, none, none, none, none], [.int 1], hC0, 0, 0) _
  refine mEnds.steps 7 (q' := (40, [some (.ref 1), some (.int 0), some (.int x2), some (.int x3), some (.int x4), some (.ref 124), none, none, none, none, none], [.ref 1], hC0, 0, 0)) rfl ?_
  refine mEnds.call (d := 19) (y' := 109) (as := [.ref 1]) (q' := (43, [some (.ref 1), some (.int 0), some (.int x2), some (.int x3), some (.int x4), some (.ref 124), none, none, none, none, none], [], hC0, 0, 0)) (v := some (.ref 44)) (hs' := hC0) (c' := 0) (s' := 0) rfl rfl ?_ ?_
  · exact mEnds.deep cpn 9
  show mEnds [] 20 102 (43, [some (.ref 1), some (.int 0), some (.int x2), some (.int x3), some (.int x4), some (.ref 124), none, none, none, none, none], [.ref 44], hC0, 0, 0) _
  refine mEnds.steps 9 (q' := (58, [some (.ref 1), some (.int 0), some (.int x2), some (.int x3), some (.int x4), some (.ref 124), some (.ref 44), some (.int 0), some (.int 0), some (.int 0), none], [.int x4, .int 0], hC0, 0, 0)) rfl ?_
  refine mEnds.brF (q' := (61, [some (.ref 1), some (.int 0), some (.int x2), some (.int x3), some (.int x4), some (.ref 124), some (.ref 44), some (.int 0), some (.int 0), some (.int 0), none], [], hC0, 0, 0)) rfl (mtk_ge f6) rfl ?_
  refine mEnds.steps 11 (q' := (79, [some (.ref 1), some (.int 0), some (.int x2), some (.int x3), some (.int x4), some (.ref 124), some (.ref 44), some (.int 0), some (.int 0), some (.int 0), some (.int (x3 + 0))], [.int (x3 + 0), .int x2, .ref 124], hC0, 0, 0)) rfl ?_
  refine mEnds.call (d := 19) (y' := 34) (as := [.ref 124, .int x2, .int (x3 + 0)]) (q' := (82, [some (.ref 1), some (.int 0), some (.int x2), some (.int x3), some (.int x4), some (.ref 124), some (.ref 44), some (.int 0), some (.int 0), some (.int 0), some (.int (x3 + 0))], [], hC0, 0, 0)) (v := some (.int 1)) (hs' := hC0) (c' := 0) (s' := 0) rfl rfl ?_ ?_
  · refine mEnds.steps 3 (q' := (3, [some (.ref 124), some (.int x2), some (.int (x3 + 0)), none], [.int (x3 + 0), .int x2, .ref 124], hC0, 0, 0)) rfl ?_
    refine mEnds.call (d := 18) (y' := 33) (as := [.ref 124, .int x2, .int (x3 + 0)]) (q' := (6, [some (.ref 124), some (.int x2), some (.int (x3 + 0)), none], [], hC0, 0, 0)) (v := some (.int 1)) (hs' := hC0) (c' := 0) (s' := 0) rfl rfl ?_ ?_
    · refine mEnds.steps 1 (q' := (1, [some (.ref 124), some (.int x2), some (.int (x3 + 0))], [.ref 124], hC0, 0, 0)) rfl ?_
      refine mEnds.call (d := 17) (y' := 30) (as := [.ref 124]) (q' := (4, [some (.ref 124), some (.int x2), some (.int (x3 + 0))], [], hC0, 0, 0)) (v := some (.int 0)) (hs' := hC0) (c' := 0) (s' := 0) rfl rfl ?_ ?_
      · refine mEnds.steps 5 (q' := (13, [some (.ref 124)], [.int 0], hC0, 0, 0)) rfl ?_
        exact mEnds.ret rfl
      show mEnds [] 18 33 (4, [some (.ref 124), some (.int x2), some (.int (x3 + 0))], [.int 0], hC0, 0, 0) _
      refine mEnds.steps 2 (q' := (8, [some (.ref 124), some (.int x2), some (.int (x3 + 0))], [.int 1], hC0, 0, 0)) rfl ?_
      exact mEnds.ret rfl
    show mEnds [] 19 34 (6, [some (.ref 124), some (.int x2), some (.int (x3 + 0)), none], [.int 1], hC0, 0, 0) _
    refine mEnds.steps 5 (q' := (23, [some (.ref 124), some (.int x2), some (.int (x3 + 0)), some (.int 1)], [.int 1], hC0, 0, 0)) rfl ?_
    exact mEnds.ret rfl
  show mEnds [] 20 102 (82, [some (.ref 1), some (.int 0), some (.int x2), some (.int x3), some (.int x4), some (.ref 124), some (.ref 44), some (.int 0), some (.int 0), some (.int 0), some (.int (x3 + 0))], [.int 1], hC0, 0, 0) _
  refine mEnds.steps 7 (q' := (58, [some (.ref 1), some (.int 0), some (.int x2), some (.int x3), some (.int x4), some (.ref 124), some (.ref 44), some (.int 1), some (.int 0), some (.int 1), some (.int (x3 + 0))], [.int x4, .int 1], hC0, 0, 0)) rfl ?_
  refine mEnds.brT (q' := (130, [some (.ref 1), some (.int 0), some (.int x2), some (.int x3), some (.int x4), some (.ref 124), some (.ref 44), some (.int 1), some (.int 0), some (.int 1), some (.int (x3 + 0))], [], hC0, 0, 0)) rfl (mtk_ge f7) rfl ?_
  refine mEnds.steps 3 (q' := (136, [some (.ref 1), some (.int 0), some (.int x2), some (.int x3), some (.int x4), some (.ref 124), some (.ref 44), some (.int 1), some (.int 0), some (.int 1), some (.int (x3 + 0))], [.ref 44, .ref 2], hC0, 0, 0)) rfl ?_
  refine mEnds.call (d := 19) (y' := 7) (as := [.ref 2, .ref 44]) (q' := (139, [some (.ref 1), some (.int 0), some (.int x2), some (.int x3), some (.int x4), some (.ref 124), some (.ref 44), some (.int 1), some (.int 0), some (.int 1), some (.int (x3 + 0))], [], hC0, 0, 0)) (v := none) (hs' := hC0) (c' := 0) (s' := 0) rfl rfl ?_ ?_
  · exact mEnds.deep cpf 9
  show mEnds [] 20 102 (139, [some (.ref 1), some (.int 0), some (.int x2), some (.int x3), some (.int x4), some (.ref 124), some (.ref 44), some (.int 1), some (.int 0), some (.int 1), some (.int (x3 + 0))], [], hC0, 0, 0) _
  refine mEnds.steps 4 (q' := (147, [some (.ref 1), some (.int 0), some (.int x2), some (.int x3), some (.int x4), some (.ref 124), some (.ref 44), some (.int 1), some (.int 0), some (.int 1), some (.int (x3 + 0))], [.int 0], (hC0.set 1 (.inr (4, [.ref 2, .ref 10, .ref 11, .ref 12, .ref 13, .ref 14, .ref 18, .int 1]))), 0, 0)) rfl ?_
  exact mEnds.ret rfl
set_option maxRecDepth 100000 in
theorem c36_FFFFFFv0F (x2 x3 x4 : Int32) (f2 : decide (x2 < 0) = false) (f3 : decide (2 < x2) = false) (f4 : decide (x4 < 0) = false) (f5 : decide (20 < x4) = false) (f6 : decide (0 < x4) = false) : ∃ hs', mEnds [] 20 102 (mentry 102 [.ref 1, .int 0, .int x2, .int x3, .int x4] hC0) (some (.int 0), hs', 0, 0) := by
  refine ⟨(hC0.set 1 (.inr (4, [.ref 2, .ref 10, .ref 11, .ref 12, .ref 13, .ref 14, .ref 18, .int 0]))), ?_⟩
  refine mEnds.steps 3 (q' := (3, [some (.ref 1), some (.int 0), some (.int x2), some (.int x3), some (.int x4), none, none, none, none, none, none], [.int 3, .int 0, .int 0], hC0, 0, 0)) rfl ?_
  refine mEnds.call (d := 19) (y' := 105) (as := [.int 0, .int 0, .int 3]) (q' := (6, [some (.ref 1), some (.int 0), some (.int x2), some (.int x3), some (.int x4), none, none, none, none, none, none], [], hC0, 0, 0)) (v := some (.int 1)) (hs' := hC0) (c' := 0) (s' := 0) rfl rfl ?_ ?_
  · refine mEnds.steps 8 (q' := (15, [some (.int 0), some (.int 0), some (.int 3)], [.int 1], hC0, 0, 0)) rfl ?_
    exact mEnds.ret rfl
  show mEnds [] 20 102 (6, [some (.ref 1), some (.int 0), some (.int x2), some (.int x3), some (.int x4), none, none, none, none, none, none], [.int 1], hC0, 0, 0) _
  refine mEnds.steps 4 (q' := (12, [some (.ref 1), some (.int 0), some (.int x2), some (.int x3), some (.int x4), none, none, none, none, none, none], [.int 2, .int 0, .int x2], hC0, 0, 0)) rfl ?_
  refine mEnds.call (d := 19) (y' := 105) (as := [.int x2, .int 0, .int 2]) (q' := (15, [some (.ref 1), some (.int 0), some (.int x2), some (.int x3), some (.int x4), none, none, none, none, none, none], [], hC0, 0, 0)) (v := some (.int 1)) (hs' := hC0) (c' := 0) (s' := 0) rfl rfl ?_ ?_
  · refine mEnds.steps 2 (q' := (2, [some (.int x2), some (.int 0), some (.int 2)], [.int 0, .int x2], hC0, 0, 0)) rfl ?_
    refine mEnds.brF (q' := (5, [some (.int x2), some (.int 0), some (.int 2)], [], hC0, 0, 0)) rfl f2 rfl ?_
    refine mEnds.steps 2 (q' := (7, [some (.int x2), some (.int 0), some (.int 2)], [.int 2, .int x2], hC0, 0, 0)) rfl ?_
    refine mEnds.brF (q' := (10, [some (.int x2), some (.int 0), some (.int 2)], [], hC0, 0, 0)) rfl f3 rfl ?_
    refine mEnds.steps 2 (q' := (15, [some (.int x2), some (.int 0), some (.int 2)], [.int 1], hC0, 0, 0)) rfl ?_
    exact mEnds.ret rfl
  show mEnds [] 20 102 (15, [some (.ref 1), some (.int 0), some (.int x2), some (.int x3), some (.int x4), none, none, none, none, none, none], [.int 1], hC0, 0, 0) _
  refine mEnds.steps 4 (q' := (23, [some (.ref 1), some (.int 0), some (.int x2), some (.int x3), some (.int x4), none, none, none, none, none, none], [.int 20, .int 0, .int x4], hC0, 0, 0)) rfl ?_
  refine mEnds.call (d := 19) (y' := 105) (as := [.int x4, .int 0, .int 20]) (q' := (26, [some (.ref 1), some (.int 0), some (.int x2), some (.int x3), some (.int x4), none, none, none, none, none, none], [], hC0, 0, 0)) (v := some (.int 1)) (hs' := hC0) (c' := 0) (s' := 0) rfl rfl ?_ ?_
  · refine mEnds.steps 2 (q' := (2, [some (.int x4), some (.int 0), some (.int 20)], [.int 0, .int x4], hC0, 0, 0)) rfl ?_
    refine mEnds.brF (q' := (5, [some (.int x4), some (.int 0), some (.int 20)], [], hC0, 0, 0)) rfl f4 rfl ?_
    refine mEnds.steps 2 (q' := (7, [some (.int x4), some (.int 0), some (.int 20)], [.int 20, .int x4], hC0, 0, 0)) rfl ?_
    refine mEnds.brF (q' := (10, [some (.int x4), some (.int 0), some (.int 20)], [], hC0, 0, 0)) rfl f5 rfl ?_
    refine mEnds.steps 2 (q' := (15, [some (.int x4), some (.int 0), some (.int 20)], [.int 1], hC0, 0, 0)) rfl ?_
    exact mEnds.ret rfl
  show mEnds [] 20 102 (26, [some (.ref 1), some (.int 0), some (.int x2), some (.int x3), some (.int x4), none, none, none, none, none, none], [.int 1], hC0, 0, 0) _
  refine mEnds.steps 7 (q' := (40, [some (.ref 1), some (.int 0), some (.int x2), some (.int x3), some (.int x4), some (.ref 124), none, none, none, none, none], [.ref 1], hC0, 0, 0)) rfl ?_
  refine mEnds.call (d := 19) (y' := 109) (as := [.ref 1]) (q' := (43, [some (.ref 1), some (.int 0), some (.int x2), some (.int x3), some (.int x4), some (.ref 124), none, none, none, none, none], [], hC0, 0, 0)) (v := some (.ref 44)) (hs' := hC0) (c' := 0) (s' := 0) rfl rfl ?_ ?_
  · exact mEnds.deep cpn 9
  show mEnds [] 20 102 (43, [some (.ref 1), some (.int 0), some (.int x2), some (.int x3), some (.int x4), some (.ref 124), none, none, none, none, none], [.ref 44], hC0, 0, 0) _
  refine mEnds.steps 9 (q' := (58, [some (.ref 1), some (.int 0), some (.int x2), some (.int x3), some (.int x4), some (.ref 124), some (.ref 44), some (.int 0), some (.int 0), some (.int 0), none], [.int x4, .int 0], hC0, 0, 0)) rfl ?_
  refine mEnds.brT (q' := (130, [some (.ref 1), some (.int 0), some (.int x2), some (.int x3), some (.int x4), some (.ref 124), some (.ref 44), some (.int 0), some (.int 0), some (.int 0), none], [], hC0, 0, 0)) rfl (mtk_ge f6) rfl ?_
  refine mEnds.steps 3 (q' := (136, [some (.ref 1), some (.int 0), some (.int x2), some (.int x3), some (.int x4), some (.ref 124), some (.ref 44), some (.int 0), some (.int 0), some (.int 0), none], [.ref 44, .ref 2], hC0, 0, 0)) rfl ?_
  refine mEnds.call (d := 19) (y' := 7) (as := [.ref 2, .ref 44]) (q' := (139, [some (.ref 1), some (.int 0), some (.int x2), some (.int x3), some (.int x4), some (.ref 124), some (.ref 44), some (.int 0), some (.int 0), some (.int 0), none], [], hC0, 0, 0)) (v := none) (hs' := hC0) (c' := 0) (s' := 0) rfl rfl ?_ ?_
  · exact mEnds.deep cpf 9
  show mEnds [] 20 102 (139, [some (.ref 1), some (.int 0), some (.int x2), some (.int x3), some (.int x4), some (.ref 124), some (.ref 44), some (.int 0), some (.int 0), some (.int 0), none], [], hC0, 0, 0) _
  refine mEnds.steps 4 (q' := (147, [some (.ref 1), some (.int 0), some (.int x2), some (.int x3), some (.int x4), some (.ref 124), some (.ref 44), some (.int 0), some (.int 0), some (.int 0), none], [.int 0], (hC0.set 1 (.inr (4, [.ref 2, .ref 10, .ref 11, .ref 12, .ref 13, .ref 14, .ref 18, .int 0]))), 0, 0)) rfl ?_
  exact mEnds.ret rfl
set_option maxRecDepth 100000 in
theorem c36_FFFFFFv0_ (x2 x3 x4 : Int32) (f2 : decide (x2 < 0) = false) (f3 : decide (2 < x2) = false) (f4 : decide (x4 < 0) = false) (f5 : decide (20 < x4) = false) : ∃ hs', mEnds [] 20 102 (mentry 102 [.ref 1, .int 0, .int x2, .int x3, .int x4] hC0) (some (.int 0), hs', 0, 0) := by
  cases f6 : decide (0 < x4) with
  | true =>
    cases f7 : decide (1 < x4) with
    | true =>
      exact c36_FFFFFFv0TT x2 x3 x4 f2 f3 f4 f5 f6 f7
    | false =>
      exact c36_FFFFFFv0TF x2 x3 x4 f2 f3 f4 f5 f6 f7
  | false =>
    exact c36_FFFFFFv0F x2 x3 x4 f2 f3 f4 f5 f6
set_option maxRecDepth 100000 in
theorem m36_FFFFFFv0TT (x2 x3 x4 : Int32) (f2 : decide (x2 < 0) = false) (f3 : decide (2 < x2) = false) (f4 : decide (x4 < 0) = false) (f5 : decide (20 < x4) = false) (f6 : decide (0 < (2 * x4)) = true) (f7 : decide (1 < (2 * x4)) = true) : ∃ hs', mEnds [] 20 181 (mentry 181 [.ref 1, .int 0, .int x2, .int x3, .int x4] hM0) (some (.int 0), hs', 0, 0) := by
  refine ⟨(hM0.set 1 (.inr (5, [.ref 2, .int 0, .ref 3, .int 0, .int 0, .int 0, .int 0, .ref 4, .int 0, .int 0, .int 0, .int 0, .int 0, .int 0, .int 0, .int 0, .ref 5, .ref 6, .ref 7, .int 0, .int 0, .ref 8, .int 0, .ref 9, .ref 10, .ref 11, .ref 12, .ref 13, .int 1]))), ?_⟩
  refine mEnds.steps 4 (q' := (6, [some (.ref 1), some (.int 0), some (.int x2), some (.int x3), some (.int x4), none, none, none, none, none], [.long 3, .long 0, .long 0], hM0, 0, 0)) rfl ?_
  refine mEnds.call (d := 19) (y' := 111) (as := [.long 0, .long 0, .long 3]) (q' := (9, [some (.ref 1), some (.int 0), some (.int x2), some (.int x3), some (.int x4), none, none, none, none, none], [], hM0, 0, 0)) (v := some (.int 1)) (hs' := hM0) (c' := 0) (s' := 0) rfl rfl ?_ ?_
  · refine mEnds.steps 10 (q' := (18, [some (.long 0), none, some (.long 0), none, some (.long 3), none], [.int 1], hM0, 0, 0)) rfl ?_
    exact mEnds.ret rfl
  show mEnds [] 20 181 (9, [some (.ref 1), some (.int 0), some (.int x2), some (.int x3), some (.int x4), none, none, none, none, none], [.int 1], hM0, 0, 0) _
  refine mEnds.steps 5 (q' := (18, [some (.ref 1), some (.int 0), some (.int x2), some (.int x3), some (.int x4), none, none, none, none, none], [.long 2, .long 0, .long x2.toInt64], hM0, 0, 0)) rfl ?_
  refine mEnds.call (d := 19) (y' := 111) (as := [.long x2.toInt64, .long 0, .long 2]) (q' := (21, [some (.ref 1), some (.int 0), some (.int x2), some (.int x3), some (.int x4), none, none, none, none, none], [], hM0, 0, 0)) (v := some (.int 1)) (hs' := hM0) (c' := 0) (s' := 0) rfl rfl ?_ ?_
  · refine mEnds.steps 3 (q' := (3, [some (.long x2.toInt64), none, some (.long 0), none, some (.long 2), none], [.int (lg_cmp x2.toInt64 0)], hM0, 0, 0)) rfl ?_
    refine mEnds.brF (q' := (6, [some (.long x2.toInt64), none, some (.long 0), none, some (.long 2), none], [], hM0, 0, 0)) rfl (lgc_lt (c := 0) (by decide) f2) rfl ?_
    refine mEnds.steps 3 (q' := (10, [some (.long x2.toInt64), none, some (.long 0), none, some (.long 2), none], [.int (lg_cmp x2.toInt64 2)], hM0, 0, 0)) rfl ?_
    refine mEnds.brF (q' := (13, [some (.long x2.toInt64), none, some (.long 0), none, some (.long 2), none], [], hM0, 0, 0)) rfl (lgc_gt (c := 2) (by decide) f3) rfl ?_
    refine mEnds.steps 2 (q' := (18, [some (.long x2.toInt64), none, some (.long 0), none, some (.long 2), none], [.int 1], hM0, 0, 0)) rfl ?_
    exact mEnds.ret rfl
  show mEnds [] 20 181 (21, [some (.ref 1), some (.int 0), some (.int x2), some (.int x3), some (.int x4), none, none, none, none, none], [.int 1], hM0, 0, 0) _
  refine mEnds.steps 5 (q' := (31, [some (.ref 1), some (.int 0), some (.int x2), some (.int x3), some (.int x4), none, none, none, none, none], [.long 20, .long 0, .long x4.toInt64], hM0, 0, 0)) rfl ?_
  refine mEnds.call (d := 19) (y' := 111) (as := [.long x4.toInt64, .long 0, .long 20]) (q' := (34, [some (.ref 1), some (.int 0), some (.int x2), some (.int x3), some (.int x4), none, none, none, none, none], [], hM0, 0, 0)) (v := some (.int 1)) (hs' := hM0) (c' := 0) (s' := 0) rfl rfl ?_ ?_
  · refine mEnds.steps 3 (q' := (3, [some (.long x4.toInt64), none, some (.long 0), none, some (.long 20), none], [.int (lg_cmp x4.toInt64 0)], hM0, 0, 0)) rfl ?_
    refine mEnds.brF (q' := (6, [some (.long x4.toInt64), none, some (.long 0), none, some (.long 20), none], [], hM0, 0, 0)) rfl (lgc_lt (c := 0) (by decide) f4) rfl ?_
    refine mEnds.steps 3 (q' := (10, [some (.long x4.toInt64), none, some (.long 0), none, some (.long 20), none], [.int (lg_cmp x4.toInt64 20)], hM0, 0, 0)) rfl ?_
    refine mEnds.brF (q' := (13, [some (.long x4.toInt64), none, some (.long 0), none, some (.long 20), none], [], hM0, 0, 0)) rfl (lgc_gt (c := 20) (by decide) f5) rfl ?_
    refine mEnds.steps 2 (q' := (18, [some (.long x4.toInt64), none, some (.long 0), none, some (.long 20), none], [.int 1], hM0, 0, 0)) rfl ?_
    exact mEnds.ret rfl
  show mEnds [] 20 181 (34, [some (.ref 1), some (.int 0), some (.int x2), some (.int x3), some (.int x4), none, none, none, none, none], [.int 1], hM0, 0, 0) _
  refine mEnds.steps 4 (q' := (44, [some (.ref 1), some (.int 0), some (.int x2), some (.int x3), some (.int x4), none, none, none, none, none], [.int 156, .int 0, .ref 1], hM0, 0, 0)) rfl ?_
  refine mEnds.call (d := 19) (y' := 152) (as := [.ref 1, .int 0, .int 156]) (q' := (47, [some (.ref 1), some (.int 0), some (.int x2), some (.int x3), some (.int x4), none, none, none, none, none], [], hM0, 0, 0)) (v := none) (hs' := hM0) (c' := 0) (s' := 0) rfl rfl ?_ ?_
  · exact mEnds.deep cp_0_156 9
  show mEnds [] 20 181 (47, [some (.ref 1), some (.int 0), some (.int x2), some (.int x3), some (.int x4), none, none, none, none, none], [], hM0, 0, 0) _
  refine mEnds.steps 10 (q' := (62, [some (.ref 1), some (.int 0), some (.int x2), some (.int x3), some (.int x4), some (.int 0), some (.int 0), some (.int 0), none, none], [.int (2 * x4), .int 0], hM0, 0, 0)) rfl ?_
  refine mEnds.brF (q' := (65, [some (.ref 1), some (.int 0), some (.int x2), some (.int x3), some (.int x4), some (.int 0), some (.int 0), some (.int 0), none, none], [], hM0, 0, 0)) rfl (mtk_ge f6) rfl ?_
  refine mEnds.steps 19 (q' := (62, [some (.ref 1), some (.int 0), some (.int x2), some (.int x3), some (.int x4), some (.int 1), some (.int 0), some (.int 1), none, none], [.int (2 * x4), .int 1], hM0, 0, 0)) rfl ?_
  refine mEnds.brF (q' := (65, [some (.ref 1), some (.int 0), some (.int x2), some (.int x3), some (.int x4), some (.int 1), some (.int 0), some (.int 1), none, none], [], hM0, 0, 0)) rfl (mtk_ge f7) rfl ?_
  refine mEnds.steps 6 (q' := (236, [some (.ref 1), some (.int 0), some (.int x2), some (.int x3), some (.int x4), some (.int 1), some (.int 0), some (.int 1), none, none], [.int 0], (hM0.set 1 (.inr (5, [.ref 2, .int 0, .ref 3, .int 0, .int 0, .int 0, .int 0, .ref 4, .int 0, .int 0, .int 0, .int 0, .int 0, .int 0, .int 0, .int 0, .ref 5, .ref 6, .ref 7, .int 0, .int 0, .ref 8, .int 0, .ref 9, .ref 10, .ref 11, .ref 12, .ref 13, .int 1]))), 0, 0)) rfl ?_
  exact mEnds.ret rfl
set_option maxRecDepth 100000 in
theorem m36_FFFFFFv0TF (x2 x3 x4 : Int32) (f2 : decide (x2 < 0) = false) (f3 : decide (2 < x2) = false) (f4 : decide (x4 < 0) = false) (f5 : decide (20 < x4) = false) (f6 : decide (0 < (2 * x4)) = true) (f7 : decide (1 < (2 * x4)) = false) : ∃ hs', mEnds [] 20 181 (mentry 181 [.ref 1, .int 0, .int x2, .int x3, .int x4] hM0) (some (.int 0), hs', 0, 0) := by
  refine ⟨(hM0.set 1 (.inr (5, [.ref 2, .int 0, .ref 3, .int 0, .int 0, .int 0, .int 0, .ref 4, .int 0, .int 0, .int 0, .int 0, .int 0, .int 0, .int 0, .int 0, .ref 5, .ref 6, .ref 7, .int 0, .int 0, .ref 8, .int 0, .ref 9, .ref 10, .ref 11, .ref 12, .ref 13, .int 1]))), ?_⟩
  refine mEnds.steps 4 (q' := (6, [some (.ref 1), some (.int 0), some (.int x2), some (.int x3), some (.int x4), none, none, none, none, none], [.long 3, .long 0, .long 0], hM0, 0, 0)) rfl ?_
  refine mEnds.call (d := 19) (y' := 111) (as := [.long 0, .long 0, .long 3]) (q' := (9, [some (.ref 1), some (.int 0), some (.int x2), some (.int x3), some (.int x4), none, none, none, none, none], [], hM0, 0, 0)) (v := some (.int 1)) (hs' := hM0) (c' := 0) (s' := 0) rfl rfl ?_ ?_
  · refine mEnds.steps 10 (q' := (18, [some (.long 0), none, some (.long 0), none, some (.long 3), none], [.int 1], hM0, 0, 0)) rfl ?_
    exact mEnds.ret rfl
  show mEnds [] 20 181 (9, [some (.ref 1), some (.int 0), some (.int x2), some (.int x3), some (.int x4), none, none, none, none, none], [.int 1], hM0, 0, 0) _
  refine mEnds.steps 5 (q' := (18, [some (.ref 1), some (.int 0), some (.int x2), some (.int x3), some (.int x4), none, none, none, none, none], [.long 2, .long 0, .long x2.toInt64], hM0, 0, 0)) rfl ?_
  refine mEnds.call (d := 19) (y' := 111) (as := [.long x2.toInt64, .long 0, .long 2]) (q' := (21, [some (.ref 1), some (.int 0), some (.int x2), some (.int x3), some (.int x4), none, none, none, none, none], [], hM0, 0, 0)) (v := some (.int 1)) (hs' := hM0) (c' := 0) (s' := 0) rfl rfl ?_ ?_
  · refine mEnds.steps 3 (q' := (3, [some (.long x2.toInt64), none, some (.long 0), none, some (.long 2), none], [.int (lg_cmp x2.toInt64 0)], hM0, 0, 0)) rfl ?_
    refine mEnds.brF (q' := (6, [some (.long x2.toInt64), none, some (.long 0), none, some (.long 2), none], [], hM0, 0, 0)) rfl (lgc_lt (c := 0) (by decide) f2) rfl ?_
    refine mEnds.steps 3 (q' := (10, [some (.long x2.toInt64), none, some (.long 0), none, some (.long 2), none], [.int (lg_cmp x2.toInt64 2)], hM0, 0, 0)) rfl ?_
    refine mEnds.brF (q' := (13, [some (.long x2.toInt64), none, some (.long 0), none, some (.long 2), none], [], hM0, 0, 0)) rfl (lgc_gt (c := 2) (by decide) f3) rfl ?_
    refine mEnds.steps 2 (q' := (18, [some (.long x2.toInt64), none, some (.long 0), none, some (.long 2), none], [.int 1], hM0, 0, 0)) rfl ?_
    exact mEnds.ret rfl
  show mEnds [] 20 181 (21, [some (.ref 1), some (.int 0), some (.int x2), some (.int x3), some (.int x4), none, none, none, none, none], [.int 1], hM0, 0, 0) _
  refine mEnds.steps 5 (q' := (31, [some (.ref 1), some (.int 0), some (.int x2), some (.int x3), some (.int x4), none, none, none, none, none], [.long 20, .long 0, .long x4.toInt64], hM0, 0, 0)) rfl ?_
  refine mEnds.call (d := 19) (y' := 111) (as := [.long x4.toInt64, .long 0, .long 20]) (q' := (34, [some (.ref 1), some (.int 0), some (.int x2), some (.int x3), some (.int x4), none, none, none, none, none], [], hM0, 0, 0)) (v := some (.int 1)) (hs' := hM0) (c' := 0) (s' := 0) rfl rfl ?_ ?_
  · refine mEnds.steps 3 (q' := (3, [some (.long x4.toInt64), none, some (.long 0), none, some (.long 20), none], [.int (lg_cmp x4.toInt64 0)], hM0, 0, 0)) rfl ?_
    refine mEnds.brF (q' := (6, [some (.long x4.toInt64), none, some (.long 0), none, some (.long 20), none], [], hM0, 0, 0)) rfl (lgc_lt (c := 0) (by decide) f4) rfl ?_
    refine mEnds.steps 3 (q' := (10, [some (.long x4.toInt64), none, some (.long 0), none, some (.long 20), none], [.int (lg_cmp x4.toInt64 20)], hM0, 0, 0)) rfl ?_
    refine mEnds.brF (q' := (13, [some (.long x4.toInt64), none, some (.long 0), none, some (.long 20), none], [], hM0, 0, 0)) rfl (lgc_gt (c := 20) (by decide) f5) rfl ?_
    refine mEnds.steps 2 (q' := (18, [some (.long x4.toInt64), none, some (.long 0), none, some (.long 20), none], [.int 1], hM0, 0, 0)) rfl ?_
    exact mEnds.ret rfl
  show mEnds [] 20 181 (34, [some (.ref 1), some (.int 0), some (.int x2), some (.int x3), some (.int x4), none, none, none, none, none], [.int 1], hM0, 0, 0) _
  refine mEnds.steps 4 (q' := (44, [some (.ref 1), some (.int 0), some (.int x2), some (.int x3), some (.int x4), none, none, none, none, none], [.int 156, .int 0, .ref 1], hM0, 0, 0)) rfl ?_
  refine mEnds.call (d := 19) (y' := 152) (as := [.ref 1, .int 0, .int 156]) (q' := (47, [some (.ref 1), some (.int 0), some (.int x2), some (.int x3), some (.int x4), none, none, none, none, none], [], hM0, 0, 0)) (v := none) (hs' := hM0) (c' := 0) (s' := 0) rfl rfl ?_ ?_
  · exact mEnds.deep cp_0_156 9
  show mEnds [] 20 181 (47, [some (.ref 1), some (.int 0), some (.int x2), some (.int x3), some (.int x4), none, none, none, none, none], [], hM0, 0, 0) _
  refine mEnds.steps 10 (q' := (62, [some (.ref 1), some (.int 0), some (.int x2), some (.int x3), some (.int x4), some (.int 0), some (.int 0), some (.int 0), none, none], [.int (2 * x4), .int 0], hM0, 0, 0)) rfl ?_
  refine mEnds.brF (q' := (65, [some (.ref 1), some (.int 0), some (.int x2), some (.int x3), some (.int x4), some (.int 0), some (.int 0), some (.int 0), none, none], [], hM0, 0, 0)) rfl (mtk_ge f6) rfl ?_
  refine mEnds.steps 19 (q' := (62, [some (.ref 1), some (.int 0), some (.int x2), some (.int x3), some (.int x4), some (.int 1), some (.int 0), some (.int 1), none, none], [.int (2 * x4), .int 1], hM0, 0, 0)) rfl ?_
  refine mEnds.brT (q' := (228, [some (.ref 1), some (.int 0), some (.int x2), some (.int x3), some (.int x4), some (.int 1), some (.int 0), some (.int 1), none, none], [], hM0, 0, 0)) rfl (mtk_ge f7) rfl ?_
  refine mEnds.steps 4 (q' := (236, [some (.ref 1), some (.int 0), some (.int x2), some (.int x3), some (.int x4), some (.int 1), some (.int 0), some (.int 1), none, none], [.int 0], (hM0.set 1 (.inr (5, [.ref 2, .int 0, .ref 3, .int 0, .int 0, .int 0, .int 0, .ref 4, .int 0, .int 0, .int 0, .int 0, .int 0, .int 0, .int 0, .int 0, .ref 5, .ref 6, .ref 7, .int 0, .int 0, .ref 8, .int 0, .ref 9, .ref 10, .ref 11, .ref 12, .ref 13, .int 1]))), 0, 0)) rfl ?_
  exact mEnds.ret rfl
set_option maxRecDepth 100000 in
theorem m36_FFFFFFv0F (x2 x3 x4 : Int32) (f2 : decide (x2 < 0) = false) (f3 : decide (2 < x2) = false) (f4 : decide (x4 < 0) = false) (f5 : decide (20 < x4) = false) (f6 : decide (0 < (2 * x4)) = false) : ∃ hs', mEnds [] 20 181 (mentry 181 [.ref 1, .int 0, .int x2, .int x3, .int x4] hM0) (some (.int 0), hs', 0, 0) := by
  refine ⟨(hM0.set 1 (.inr (5, [.ref 2, .int 0, .ref 3, .int 0, .int 0, .int 0, .int 0, .ref 4, .int 0, .int 0, .int 0, .int 0, .int 0, .int 0, .int 0, .int 0, .ref 5, .ref 6, .ref 7, .int 0, .int 0, .ref 8, .int 0, .ref 9, .ref 10, .ref 11, .ref 12, .ref 13, .int 0]))), ?_⟩
  refine mEnds.steps 4 (q' := (6, [some (.ref 1), some (.int 0), some (.int x2), some (.int x3), some (.int x4), none, none, none, none, none], [.long 3, .long 0, .long 0], hM0, 0, 0)) rfl ?_
  refine mEnds.call (d := 19) (y' := 111) (as := [.long 0, .long 0, .long 3]) (q' := (9, [some (.ref 1), some (.int 0), some (.int x2), some (.int x3), some (.int x4), none, none, none, none, none], [], hM0, 0, 0)) (v := some (.int 1)) (hs' := hM0) (c' := 0) (s' := 0) rfl rfl ?_ ?_
  · refine mEnds.steps 10 (q' := (18, [some (.long 0), none, some (.long 0), none, some (.long 3), none], [.int 1], hM0, 0, 0)) rfl ?_
    exact mEnds.ret rfl
  show mEnds [] 20 181 (9, [some (.ref 1), some (.int 0), some (.int x2), some (.int x3), some (.int x4), none, none, none, none, none], [.int 1], hM0, 0, 0) _
  refine mEnds.steps 5 (q' := (18, [some (.ref 1), some (.int 0), some (.int x2), some (.int x3), some (.int x4), none, none, none, none, none], [.long 2, .long 0, .long x2.toInt64], hM0, 0, 0)) rfl ?_
  refine mEnds.call (d := 19) (y' := 111) (as := [.long x2.toInt64, .long 0, .long 2]) (q' := (21, [some (.ref 1), some (.int 0), some (.int x2), some (.int x3), some (.int x4), none, none, none, none, none], [], hM0, 0, 0)) (v := some (.int 1)) (hs' := hM0) (c' := 0) (s' := 0) rfl rfl ?_ ?_
  · refine mEnds.steps 3 (q' := (3, [some (.long x2.toInt64), none, some (.long 0), none, some (.long 2), none], [.int (lg_cmp x2.toInt64 0)], hM0, 0, 0)) rfl ?_
    refine mEnds.brF (q' := (6, [some (.long x2.toInt64), none, some (.long 0), none, some (.long 2), none], [], hM0, 0, 0)) rfl (lgc_lt (c := 0) (by decide) f2) rfl ?_
    refine mEnds.steps 3 (q' := (10, [some (.long x2.toInt64), none, some (.long 0), none, some (.long 2), none], [.int (lg_cmp x2.toInt64 2)], hM0, 0, 0)) rfl ?_
    refine mEnds.brF (q' := (13, [some (.long x2.toInt64), none, some (.long 0), none, some (.long 2), none], [], hM0, 0, 0)) rfl (lgc_gt (c := 2) (by decide) f3) rfl ?_
    refine mEnds.steps 2 (q' := (18, [some (.long x2.toInt64), none, some (.long 0), none, some (.long 2), none], [.int 1], hM0, 0, 0)) rfl ?_
    exact mEnds.ret rfl
  show mEnds [] 20 181 (21, [some (.ref 1), some (.int 0), some (.int x2), some (.int x3), some (.int x4), none, none, none, none, none], [.int 1], hM0, 0, 0) _
  refine mEnds.steps 5 (q' := (31, [some (.ref 1), some (.int 0), some (.int x2), some (.int x3), some (.int x4), none, none, none, none, none], [.long 20, .long 0, .long x4.toInt64], hM0, 0, 0)) rfl ?_
  refine mEnds.call (d := 19) (y' := 111) (as := [.long x4.toInt64, .long 0, .long 20]) (q' := (34, [some (.ref 1), some (.int 0), some (.int x2), some (.int x3), some (.int x4), none, none, none, none, none], [], hM0, 0, 0)) (v := some (.int 1)) (hs' := hM0) (c' := 0) (s' := 0) rfl rfl ?_ ?_
  · refine mEnds.steps 3 (q' := (3, [some (.long x4.toInt64), none, some (.long 0), none, some (.long 20), none], [.int (lg_cmp x4.toInt64 0)], hM0, 0, 0)) rfl ?_
    refine mEnds.brF (q' := (6, [some (.long x4.toInt64), none, some (.long 0), none, some (.long 20), none], [], hM0, 0, 0)) rfl (lgc_lt (c := 0) (by decide) f4) rfl ?_
    refine mEnds.steps 3 (q' := (10, [some (.long x4.toInt64), none, some (.long 0), none, some (.long 20), none], [.int (lg_cmp x4.toInt64 20)], hM0, 0, 0)) rfl ?_
    refine mEnds.brF (q' := (13, [some (.long x4.toInt64), none, some (.long 0), none, some (.long 20), none], [], hM0, 0, 0)) rfl (lgc_gt (c := 20) (by decide) f5) rfl ?_
    refine mEnds.steps 2 (q' := (18, [some (.long x4.toInt64), none, some (.long 0), none, some (.long 20), none], [.int 1], hM0, 0, 0)) rfl ?_
    exact mEnds.ret rfl
  show mEnds [] 20 181 (34, [some (.ref 1), some (.int 0), some (.int x2), some (.int x3), some (.int x4), none, none, none, none, none], [.int 1], hM0, 0, 0) _
  refine mEnds.steps 4 (q' := (44, [some (.ref 1), some (.int 0), some (.int x2), some (.int x3), some (.int x4), none, none, none, none, none], [.int 156, .int 0, .ref 1], hM0, 0, 0)) rfl ?_
  refine mEnds.call (d := 19) (y' := 152) (as := [.ref 1, .int 0, .int 156]) (q' := (47, [some (.ref 1), some (.int 0), some (.int x2), some (.int x3), some (.int x4), none, none, none, none, none], [], hM0, 0, 0)) (v := none) (hs' := hM0) (c' := 0) (s' := 0) rfl rfl ?_ ?_
  · exact mEnds.deep cp_0_156 9
  show mEnds [] 20 181 (47, [some (.ref 1), some (.int 0), some (.int x2), some (.int x3), some (.int x4), none, none, none, none, none], [], hM0, 0, 0) _
  refine mEnds.steps 10 (q' := (62, [some (.ref 1), some (.int 0), some (.int x2), some (.int x3), some (.int x4), some (.int 0), some (.int 0), some (.int 0), none, none], [.int (2 * x4), .int 0], hM0, 0, 0)) rfl ?_
  refine mEnds.brT (q' := (228, [some (.ref 1), some (.int 0), some (.int x2), some (.int x3), some (.int x4), some (.int 0), some (.int 0), some (.int 0), none, none], [], hM0, 0, 0)) rfl (mtk_ge f6) rfl ?_
  refine mEnds.steps 4 (q' := (236, [some (.ref 1), some (.int 0), some (.int x2), some (.int x3), some (.int x4), some (.int 0), some (.int 0), some (.int 0), none, none], [.int 0], (hM0.set 1 (.inr (5, [.ref 2, .int 0, .ref 3, .int 0, .int 0, .int 0, .int 0, .ref 4, .int 0, .int 0, .int 0, .int 0, .int 0, .int 0, .int 0, .int 0, .ref 5, .ref 6, .ref 7, .int 0, .int 0, .ref 8, .int 0, .ref 9, .ref 10, .ref 11, .ref 12, .ref 13, .int 0]))), 0, 0)) rfl ?_
  exact mEnds.ret rfl
set_option maxRecDepth 100000 in
theorem m36_FFFFFFv0_ (x2 x3 x4 : Int32) (f2 : decide (x2 < 0) = false) (f3 : decide (2 < x2) = false) (f4 : decide (x4 < 0) = false) (f5 : decide (20 < x4) = false) : ∃ hs', mEnds [] 20 181 (mentry 181 [.ref 1, .int 0, .int x2, .int x3, .int x4] hM0) (some (.int 0), hs', 0, 0) := by
  cases f6 : decide (0 < (2 * x4)) with
  | true =>
    cases f7 : decide (1 < (2 * x4)) with
    | true =>
      exact m36_FFFFFFv0TT x2 x3 x4 f2 f3 f4 f5 f6 f7
    | false =>
      exact m36_FFFFFFv0TF x2 x3 x4 f2 f3 f4 f5 f6 f7
  | false =>
    exact m36_FFFFFFv0F x2 x3 x4 f2 f3 f4 f5 f6
set_option maxRecDepth 100000 in
theorem c36_FFFFFFv1TT (x2 x3 x4 : Int32) (f2 : decide (x2 < 0) = false) (f3 : decide (2 < x2) = false) (f4 : decide (x4 < 0) = false) (f5 : decide (20 < x4) = false) (f6 : decide (0 < x4) = true) (f7 : decide (1 < x4) = true) : ∃ hs', mEnds [] 20 102 (mentry 102 [.ref 1, .int 1, .int x2, .int x3, .int x4] hC0) (some (.int 0), hs', 0, 0) := by
  refine ⟨(hC0.set 1 (.inr (4, [.ref 2, .ref 10, .ref 11, .ref 12, .ref 13, .ref 14, .ref 18, .int 1]))), ?_⟩
  refine mEnds.steps 3 (q' := (3, [some (.ref 1), some (.int 1), some (.int x2), some (.int x3), some (.int x4), none, none, none, none, none, none], [.int 3, .int 0, .int 1], hC0, 0, 0)) rfl ?_
  refine mEnds.call (d := 19) (y' := 105) (as := [.int 1, .int 0, .int 3]) (q' := (6, [some (.ref 1), some (.int 1), some (.int x2), some (.int x3), some (.int x4), none, none, none, none, none, none], [], hC0, 0, 0)) (v := some (.int 1)) (hs' := hC0) (c' := 0) (s' := 0) rfl rfl ?_ ?_
  · refine mEnds.steps 8 (q' := (15, [some (.int 1), some (.int 0), some (.int 3)], [.int 1], hC0, 0, 0)) rfl ?_
    exact mEnds.ret rfl
  show mEnds [] 20 102 (6, [some (.ref 1), some (.int 1), some (.int x2), some (.int x3), some (.int x4), none, none, none, none, none, none], [.int 1], hC0, 0, 0) _
  refine mEnds.steps 4 (q' := (12, [some (.ref 1), some (.int 1), some (.int x2), some (.int x3), some (.int x4), none, none, none, none, none, none], [.int 2, .int 0, .int x2], hC0, 0, 0)) rfl ?_
  refine mEnds.call (d := 19) (y' := 105) (as := [.int x2, .int 0, .int 2]) (q' := (15, [some (.ref 1), some (.int 1), some (.int x2), some (.int x3), some (.int x4), none, none, none, none, none, none], [], hC0, 0, 0)) (v := some (.int 1)) (hs' := hC0) (c' := 0) (s' := 0) rfl rfl ?_ ?_
  · refine mEnds.steps 2 (q' := (2, [some (.int x2), some (.int 0), some (.int 2)], [.int 0, .int x2], hC0, 0, 0)) rfl ?_
    refine mEnds.brF (q' := (5, [some (.int x2), some (.int 0), some (.int 2)], [], hC0, 0, 0)) rfl f2 rfl ?_
    refine mEnds.steps 2 (q' := (7, [some (.int x2), some (.int 0), some (.int 2)], [.int 2, .int x2], hC0, 0, 0)) rfl ?_
    refine mEnds.brF (q' := (10, [some (.int x2), some (.int 0), some (.int 2)], [], hC0, 0, 0)) rfl f3 rfl ?_
    refine mEnds.steps 2 (q' := (15, [some (.int x2), some (.int 0), some (.int 2)], [.int 1], hC0, 0, 0)) rfl ?_
    exact mEnds.ret rfl
  show mEnds [] 20 102 (15, [some (.ref 1), some (.int 1), some (.int x2), some (.int x3), some (.int x4), none, none, none, none, none, none], [.int 1], hC0, 0, 0) _
  refine mEnds.steps 4 (q' := (23, [some (.ref 1), some (.int 1), some (.int x2), some (.int x3), some (.int x4), none, none, none, none, none, none], [.int 20, .int 0, .int x4], hC0, 0, 0)) rfl ?_
  refine mEnds.call (d := 19) (y' := 105) (as := [.int x4, .int 0, .int 20]) (q' := (26, [some (.ref 1), some (.int 1), some (.int x2), some (.int x3), some (.int x4), none, none, none, none, none, none], [], hC0, 0, 0)) (v := some (.int 1)) (hs' := hC0) (c' := 0) (s' := 0) rfl rfl ?_ ?_
  · refine mEnds.steps 2 (q' := (2, [some (.int x4), some (.int 0), some (.int 20)], [.int 0, .int x4], hC0, 0, 0)) rfl ?_
    refine mEnds.brF (q' := (5, [some (.int x4), some (.int 0), some (.int 20)], [], hC0, 0, 0)) rfl f4 rfl ?_
    refine mEnds.steps 2 (q' := (7, [some (.int x4), some (.int 0), some (.int 20)], [.int 20, .int x4], hC0, 0, 0)) rfl ?_
    refine mEnds.brF (q' := (10, [some (.int x4), some (.int 0), some (.int 20)], [], hC0, 0, 0)) rfl f5 rfl ?_
    refine mEnds.steps 2 (q' := (15, [some (.int x4), some (.int 0), some (.int 20)], [.int 1], hC0, 0, 0)) rfl ?_
    exact mEnds.ret rfl
  show mEnds [] 20 102 (26, [some (.ref 1), some (.int 1), some (.int x2), some (.int x3), some (.int x4), none, none, none, none, none, none], [.int 1], hC0, 0, 0) _
  refine mEnds.steps 7 (q' := (40, [some (.ref 1), some (.int 1), some (.int x2), some (.int x3), some (.int x4), some (.ref 126), none, none, none, none, none], [.ref 1], hC0, 0, 0)) rfl ?_
  refine mEnds.call (d := 19) (y' := 109) (as := [.ref 1]) (q' := (43, [some (.ref 1), some (.int 1), some (.int x2), some (.int x3), some (.int x4), some (.ref 126), none, none, none, none, none], [], hC0, 0, 0)) (v := some (.ref 44)) (hs' := hC0) (c' := 0) (s' := 0) rfl rfl ?_ ?_
  · exact mEnds.deep cpn 9
  show mEnds [] 20 102 (43, [some (.ref 1), some (.int 1), some (.int x2), some (.int x3), some (.int x4), some (.ref 126), none, none, none, none, none], [.ref 44], hC0, 0, 0) _
  refine mEnds.steps 9 (q' := (58, [some (.ref 1), some (.int 1), some (.int x2), some (.int x3), some (.int x4), some (.ref 126), some (.ref 44), some (.int 0), some (.int 0), some (.int 0), none], [.int x4, .int 0], hC0, 0, 0)) rfl ?_
  refine mEnds.brF (q' := (61, [some (.ref 1), some (.int 1), some (.int x2), some (.int x3), some (.int x4), some (.ref 126), some (.ref 44), some (.int 0), some (.int 0), some (.int 0), none], [], hC0, 0, 0)) rfl (mtk_ge f6) rfl ?_
  refine mEnds.steps 11 (q' := (79, [some (.ref 1), some (.int 1), some (.int x2), some (.int x3), some (.int x4), some (.ref 126), some (.ref 44), some (.int 0), some (.int 0), some (.int 0), some (.int (x3 + 0))], [.int (x3 + 0), .int x2, .ref 126], hC0, 0, 0)) rfl ?_
  refine mEnds.call (d := 19) (y' := 34) (as := [.ref 126, .int x2, .int (x3 + 0)]) (q' := (82, [some (.ref 1), some (.int 1), some (.int x2), some (.int x3), some (.int x4), some (.ref 126), some (.ref 44), some (.int 0), some (.int 0), some (.int 0), some (.int (x3 + 0))], [], hC0, 0, 0)) (v := some (.int 1)) (hs' := hC0) (c' := 0) (s' := 0) rfl rfl ?_ ?_
  · refine mEnds.steps 3 (q' := (3, [some (.ref 126), some (.int x2), some (.int (x3 + 0)), none], [.int (x3 + 0), .int x2, .ref 126], hC0, 0, 0)) rfl ?_
    refine mEnds.call (d := 18) (y' := 33) (as := [.ref 126, .int x2, .int (x3 + 0)]) (q' := (6, [some (.ref 126), some (.int x2), some (.int (x3 + 0)), none], [], hC0, 0, 0)) (v := some (.int 1)) (hs' := hC0) (c' := 0) (s' := 0) rfl rfl ?_ ?_
    · refine mEnds.steps 1 (q' := (1, [some (.ref 126), some (.int x2), some (.int (x3 + 0))], [.ref 126], hC0, 0, 0)) rfl ?_
      refine mEnds.call (d := 17) (y' := 30) (as := [.ref 126]) (q' := (4, [some (.ref 126), some (.int x2), some (.int (x3 + 0))], [], hC0, 0, 0)) (v := some (.int 0)) (hs' := hC0) (c' := 0) (s' := 0) rfl rfl ?_ ?_
      · refine mEnds.steps 5 (q' := (13, [some (.ref 126)], [.int 0], hC0, 0, 0)) rfl ?_
        exact mEnds.ret rfl
      show mEnds [] 18 33 (4, [some (.ref 126), some (.int x2), some (.int (x3 + 0))], [.int 0], hC0, 0, 0) _
      refine mEnds.steps 2 (q' := (8, [some (.ref 126), some (.int x2), some (.int (x3 + 0))], [.int 1], hC0, 0, 0)) rfl ?_
      exact mEnds.ret rfl
    show mEnds [] 19 34 (6, [some (.ref 126), some (.int x2), some (.int (x3 + 0)), none], [.int 1], hC0, 0, 0) _
    refine mEnds.steps 5 (q' := (23, [some (.ref 126), some (.int x2), some (.int (x3 + 0)), some (.int 1)], [.int 1], hC0, 0, 0)) rfl ?_
    exact mEnds.ret rfl
  show mEnds [] 20 102 (82, [some (.ref 1), some (.int 1), some (.int x2), some (.int x3), some (.int x4), some (.ref 126), some (.ref 44), some (.int 0), some (.int 0), some (.int 0), some (.int (x3 + 0))], [.int 1], hC0, 0, 0) _
  refine mEnds.steps 7 (q' := (58, [some (.ref 1), some (.int 1), some (.int x2), some (.int x3), some (.int x4), some (.ref 126), some (.ref 44), some (.int 1), some (.int 0), some (.int 1), some (.int (x3 + 0))], [.int x4, .int 1], hC0, 0, 0)) rfl ?_
  refine mEnds.brF (q' := (61, [some (.ref 1), some (.int 1), some (.int x2), some (.int x3), some (.int x4), some (.ref 126), some (.ref 44), some (.int 1), some (.int 0), some (.int 1), some (.int (x3 + 0))], [], hC0, 0, 0)) rfl (mtk_ge f7) rfl ?_
  refine mEnds.steps 5 (q' := (136, [some (.ref 1), some (.int 1), some (.int x2), some (.int x3), some (.int x4), some (.ref 126), some (.ref 44), some (.int 1), some (.int 0), some (.int 1), some (.int (x3 + 0))], [.ref 44, .ref 2], hC0, 0, 0)) rfl ?_
  refine mEnds.call (d := 19) (y' := 7) (as := [.ref 2, .ref 44]) (q' := (139, [some (.ref 1), some (.int 1), some (.int x2), some (.int x3), some (.int x4), some (.ref 126), some (.ref 44), some (.int 1), some (.int 0), some (.int 1), some (.int (x3 + 0))], [], hC0, 0, 0)) (v := none) (hs' := hC0) (c' := 0) (s' := 0) rfl rfl ?_ ?_
  · exact mEnds.deep cpf 9
  show mEnds [] 20 102 (139, [some (.ref 1), some (.int 1), some (.int x2), some (.int x3), some (.int x4), some (.ref 126), some (.ref 44), some (.int 1), some (.int 0), some (.int 1), some (.int (x3 + 0))], [], hC0, 0, 0) _
  refine mEnds.steps 4 (q' := (147, [some (.ref 1), some (.int 1), some (.int x2), some (.int x3), some (.int x4), some (.ref 126), some (.ref 44), some (.int 1), some (.int 0), some (.int 1), some (.int (x3 + 0))], [.int 0], (hC0.set 1 (.inr (4, [.ref 2, .ref 10, .ref 11, .ref 12, .ref 13, .ref 14, .ref 18, .int 1]))), 0, 0)) rfl ?_
  exact mEnds.ret rfl
set_option maxRecDepth 100000 in
theorem c36_FFFFFFv1TF (x2 x3 x4 : Int32) (f2 : decide (x2 < 0) = false) (f3 : decide (2 < x2) = false) (f4 : decide (x4 < 0) = false) (f5 : decide (20 < x4) = false) (f6 : decide (0 < x4) = true) (f7 : decide (1 < x4) = false) : ∃ hs', mEnds [] 20 102 (mentry 102 [.ref 1, .int 1, .int x2, .int x3, .int x4] hC0) (some (.int 0), hs', 0, 0) := by
  refine ⟨(hC0.set 1 (.inr (4, [.ref 2, .ref 10, .ref 11, .ref 12, .ref 13, .ref 14, .ref 18, .int 1]))), ?_⟩
  refine mEnds.steps 3 (q' := (3, [some (.ref 1), some (.int 1), some (.int x2), some (.int x3), some (.int x4), none, none, none, none, none, none], [.int 3, .int 0, .int 1], hC0, 0, 0)) rfl ?_
  refine mEnds.call (d := 19) (y' := 105) (as := [.int 1, .int 0, .int 3]) (q' := (6, [some (.ref 1), some (.int 1), some (.int x2), some (.int x3), some (.int x4), none, none, none, none, none, none], [], hC0, 0, 0)) (v := some (.int 1)) (hs' := hC0) (c' := 0) (s' := 0) rfl rfl ?_ ?_
  · refine mEnds.steps 8 (q' := (15, [some (.int 1), some (.int 0), some (.int 3)], [.int 1], hC0, 0, 0)) rfl ?_
    exact mEnds.ret rfl
  show mEnds [] 20 102 (6, [some (.ref 1), some (.int 1), some (.int x2), some (.int x3), some (.int x4), none, none, none, none, none, none], [.int 1], hC0, 0, 0) _
  refine mEnds.steps 4 (q' := (12, [some (.ref 1), some (.int 1), some (.int x2), some (.int x3), some (.int x4), none, none, none, none, none, none], [.int 2, .int 0, .int x2], hC0, 0, 0)) rfl ?_
  refine mEnds.call (d := 19) (y' := 105) (as := [.int x2, .int 0, .int 2]) (q' := (15, [some (.ref 1), some (.int 1), some (.int x2), some (.int x3), some (.int x4), none, none, none, none, none, none], [], hC0, 0, 0)) (v := some (.int 1)) (hs' := hC0) (c' := 0) (s' := 0) rfl rfl ?_ ?_
  · refine mEnds.steps 2 (q' := (2, [some (.int x2), some (.int 0), some (.int 2)], [.int 0, .int x2], hC0, 0, 0)) rfl ?_
    refine mEnds.brF (q' := (5, [some (.int x2), some (.int 0), some (.int 2)], [], hC0, 0, 0)) rfl f2 rfl ?_
    refine mEnds.steps 2 (q' := (7, [some (.int x2), some (.int 0), some (.int 2)], [.int 2, .int x2], hC0, 0, 0)) rfl ?_
    refine mEnds.brF (q' := (10, [some (.int x2), some (.int 0), some (.int 2)], [], hC0, 0, 0)) rfl f3 rfl ?_
    refine mEnds.steps 2 (q' := (15, [some (.int x2), some (.int 0), some (.int 2)], [.int 1], hC0, 0, 0)) rfl ?_
    exact mEnds.ret rfl
  show mEnds [] 20 102 (15, [some (.ref 1), some (.int 1), some (.int x2), some (.int x3), some (.int x4), none, none, none, none, none, none], [.int 1], hC0, 0, 0) _
  refine mEnds.steps 4 (q' := (23, [some (.ref 1), some (.int 1), some (.int x2), some (.int x3), some (.int x4), none, none, none, none, none, none], [.int 20, .int 0, .int x4], hC0, 0, 0)) rfl ?_
  refine mEnds.call (d := 19) (y' := 105) (as := [.int x4, .int 0, .int 20]) (q' := (26, [some (.ref 1), some (.int 1), some (.int x2), some (.int x3), some (.int x4), none, none, none, none, none, none], [], hC0, 0, 0)) (v := some (.int 1)) (hs' := hC0) (c' := 0) (s' := 0) rfl rfl ?_ ?_
  · refine mEnds.steps 2 (q' := (2, [some (.int x4), some (.int 0), some (.int 20)], [.int 0, .int x4], hC0, 0, 0)) rfl ?_
    refine mEnds.brF (q' := (5, [some (.int x4), some (.int 0), some (.int 20)], [], hC0, 0, 0)) rfl f4 rfl ?_
    refine mEnds.steps 2 (q' := (7, [some (.int x4), some (.int 0), some (.int 20)], [.int 20, .int x4], hC0, 0, 0)) rfl ?_
    refine mEnds.brF (q' := (10, [some (.int x4), some (.int 0), some (.int 20)], [], hC0, 0, 0)) rfl f5 rfl ?_
    refine mEnds.steps 2 (q' := (15, [some (.int x4), some (.int 0), some (.int 20)], [.int 1], hC0, 0, 0)) rfl ?_
    exact mEnds.ret rfl
  show mEnds [] 20 102 (26, [some (.ref 1), some (.int 1), some (.int x2), some (.int x3), some (.int x4), none, none, none, none, none, none], [.int 1], hC0, 0, 0) _
  refine mEnds.steps 7 (q' := (40, [some (.ref 1), some (.int 1), some (.int x2), some (.int x3), some (.int x4), some (.ref 126), none, none, none, none, none], [.ref 1], hC0, 0, 0)) rfl ?_
  refine mEnds.call (d := 19) (y' := 109) (as := [.ref 1]) (q' := (43, [some (.ref 1), some (.int 1), some (.int x2), some (.int x3), some (.int x4), some (.ref 126), none, none, none, none, none], [], hC0, 0, 0)) (v := some (.ref 44)) (hs' := hC0) (c' := 0) (s' := 0) rfl rfl ?_ ?_
  · exact mEnds.deep cpn 9
  show mEnds [] 20 102 (43, [some (.ref 1), some (.int 1), some (.int x2), some (.int x3), some (.int x4), some (.ref 126), none, none, none, none, none], [.ref 44], hC0, 0, 0) _
  refine mEnds.steps 9 (q' := (58, [some (.ref 1), some (.int 1), some (.int x2), some (.int x3), some (.int x4), some (.ref 126), some (.ref 44), some (.int 0), some (.int 0), some (.int 0), none], [.int x4, .int 0], hC0, 0, 0)) rfl ?_
  refine mEnds.brF (q' := (61, [some (.ref 1), some (.int 1), some (.int x2), some (.int x3), some (.int x4), some (.ref 126), some (.ref 44), some (.int 0), some (.int 0), some (.int 0), none], [], hC0, 0, 0)) rfl (mtk_ge f6) rfl ?_
  refine mEnds.steps 11 (q' := (79, [some (.ref 1), some (.int 1), some (.int x2), some (.int x3), some (.int x4), some (.ref 126), some (.ref 44), some (.int 0), some (.int 0), some (.int 0), some (.int (x3 + 0))], [.int (x3 + 0), .int x2, .ref 126], hC0, 0, 0)) rfl ?_
  refine mEnds.call (d := 19) (y' := 34) (as := [.ref 126, .int x2, .int (x3 + 0)]) (q' := (82, [some (.ref 1), some (.int 1), some (.int x2), some (.int x3), some (.int x4), some (.ref 126), some (.ref 44), some (.int 0), some (.int 0), some (.int 0), some (.int (x3 + 0))], [], hC0, 0, 0)) (v := some (.int 1)) (hs' := hC0) (c' := 0) (s' := 0) rfl rfl ?_ ?_
  · refine mEnds.steps 3 (q' := (3, [some (.ref 126), some (.int x2), some (.int (x3 + 0)), none], [.int (x3 + 0), .int x2, .ref 126], hC0, 0, 0)) rfl ?_
    refine mEnds.call (d := 18) (y' := 33) (as := [.ref 126, .int x2, .int (x3 + 0)]) (q' := (6, [some (.ref 126), some (.int x2), some (.int (x3 + 0)), none], [], hC0, 0, 0)) (v := some (.int 1)) (hs' := hC0) (c' := 0) (s' := 0) rfl rfl ?_ ?_
    · refine mEnds.steps 1 (q' := (1, [some (.ref 126), some (.int x2), some (.int (x3 + 0))], [.ref 126], hC0, 0, 0)) rfl ?_
      refine mEnds.call (d := 17) (y' := 30) (as := [.ref 126]) (q' := (4, [some (.ref 126), some (.int x2), some (.int (x3 + 0))], [], hC0, 0, 0)) (v := some (.int 0)) (hs' := hC0) (c' := 0) (s' := 0) rfl rfl ?_ ?_
      · refine mEnds.steps 5 (q' := (13, [some (.ref 126)], [.int 0], hC0, 0, 0)) rfl ?_
        exact mEnds.ret rfl
      show mEnds [] 18 33 (4, [some (.ref 126), some (.int x2), some (.int (x3 + 0))], [.int 0], hC0, 0, 0) _
      refine mEnds.steps 2 (q' := (8, [some (.ref 126), some (.int x2), some (.int (x3 + 0))], [.int 1], hC0, 0, 0)) rfl ?_
      exact mEnds.ret rfl
    show mEnds [] 19 34 (6, [some (.ref 126), some (.int x2), some (.int (x3 + 0)), none], [.int 1], hC0, 0, 0) _
    refine mEnds.steps 5 (q' := (23, [some (.ref 126), some (.int x2), some (.int (x3 + 0)), some (.int 1)], [.int 1], hC0, 0, 0)) rfl ?_
    exact mEnds.ret rfl
  show mEnds [] 20 102 (82, [some (.ref 1), some (.int 1), some (.int x2), some (.int x3), some (.int x4), some (.ref 126), some (.ref 44), some (.int 0), some (.int 0), some (.int 0), some (.int (x3 + 0))], [.int 1], hC0, 0, 0) _
  refine mEnds.steps 7 (q' := (58, [some (.ref 1), some (.int 1), some (.int x2), some (.int x3), some (.int x4), some (.ref 126), some (.ref 44), some (.int 1), some (.int 0), some (.int 1), some (.int (x3 + 0))], [.int x4, .int 1], hC0, 0, 0)) rfl ?_
  refine mEnds.brT (q' := (130, [some (.ref 1), some (.int 1), some (.int x2), some (.int x3), some (.int x4), some (.ref 126), some (.ref 44), some (.int 1), some (.int 0), some (.int 1), some (.int (x3 + 0))], [], hC0, 0, 0)) rfl (mtk_ge f7) rfl ?_
  refine mEnds.steps 3 (q' := (136, [some (.ref 1), some (.int 1), some (.int x2), some (.int x3), some (.int x4), some (.ref 126), some (.ref 44), some (.int 1), some (.int 0), some (.int 1), some (.int (x3 + 0))], [.ref 44, .ref 2], hC0, 0, 0)) rfl ?_
  refine mEnds.call (d := 19) (y' := 7) (as := [.ref 2, .ref 44]) (q' := (139, [some (.ref 1), some (.int 1), some (.int x2), some (.int x3), some (.int x4), some (.ref 126), some (.ref 44), some (.int 1), some (.int 0), some (.int 1), some (.int (x3 + 0))], [], hC0, 0, 0)) (v := none) (hs' := hC0) (c' := 0) (s' := 0) rfl rfl ?_ ?_
  · exact mEnds.deep cpf 9
  show mEnds [] 20 102 (139, [some (.ref 1), some (.int 1), some (.int x2), some (.int x3), some (.int x4), some (.ref 126), some (.ref 44), some (.int 1), some (.int 0), some (.int 1), some (.int (x3 + 0))], [], hC0, 0, 0) _
  refine mEnds.steps 4 (q' := (147, [some (.ref 1), some (.int 1), some (.int x2), some (.int x3), some (.int x4), some (.ref 126), some (.ref 44), some (.int 1), some (.int 0), some (.int 1), some (.int (x3 + 0))], [.int 0], (hC0.set 1 (.inr (4, [.ref 2, .ref 10, .ref 11, .ref 12, .ref 13, .ref 14, .ref 18, .int 1]))), 0, 0)) rfl ?_
  exact mEnds.ret rfl
set_option maxRecDepth 100000 in
theorem c36_FFFFFFv1F (x2 x3 x4 : Int32) (f2 : decide (x2 < 0) = false) (f3 : decide (2 < x2) = false) (f4 : decide (x4 < 0) = false) (f5 : decide (20 < x4) = false) (f6 : decide (0 < x4) = false) : ∃ hs', mEnds [] 20 102 (mentry 102 [.ref 1, .int 1, .int x2, .int x3, .int x4] hC0) (some (.int 0), hs', 0, 0) := by
  refine ⟨(hC0.set 1 (.inr (4, [.ref 2, .ref 10, .ref 11, .ref 12, .ref 13, .ref 14, .ref 18, .int 0]))), ?_⟩
  refine mEnds.steps 3 (q' := (3, [some (.ref 1), some (.int 1), some (.int x2), some (.int x3), some (.int x4), none, none, none, none, none, none], [.int 3, .int 0, .int 1], hC0, 0, 0)) rfl ?_
  refine mEnds.call (d := 19) (y' := 105) (as := [.int 1, .int 0, .int 3]) (q' := (6, [some (.ref 1), some (.int 1), some (.int x2), some (.int x3), some (.int x4), none, none, none, none, none, none], [], hC0, 0, 0)) (v := some (.int 1)) (hs' := hC0) (c' := 0) (s' := 0) rfl rfl ?_ ?_
  · refine mEnds.steps 8 (q' := (15, [some (.int 1), some (.int 0), some (.int 3)], [.int 1], hC0, 0, 0)) rfl ?_
    exact mEnds.ret rfl
  show mEnds [] 20 102 (6, [some (.ref 1), some (.int 1), some (.int x2), some (.int x3), some (.int x4), none, none, none, none, none, none], [.int 1], hC0, 0, 0) _
  refine mEnds.steps 4 (q' := (12, [some (.ref 1), some (.int 1), some (.int x2), some (.int x3), some (.int x4), none, none, none, none, none, none], [.int 2, .int 0, .int x2], hC0, 0, 0)) rfl ?_
  refine mEnds.call (d := 19) (y' := 105) (as := [.int x2, .int 0, .int 2]) (q' := (15, [some (.ref 1), some (.int 1), some (.int x2), some (.int x3), some (.int x4), none, none, none, none, none, none], [], hC0, 0, 0)) (v := some (.int 1)) (hs' := hC0) (c' := 0) (s' := 0) rfl rfl ?_ ?_
  · refine mEnds.steps 2 (q' := (2, [some (.int x2), some (.int 0), some (.int 2)], [.int 0, .int x2], hC0, 0, 0)) rfl ?_
    refine mEnds.brF (q' := (5, [some (.int x2), some (.int 0), some (.int 2)], [], hC0, 0, 0)) rfl f2 rfl ?_
    refine mEnds.steps 2 (q' := (7, [some (.int x2), some (.int 0), some (.int 2)], [.int 2, .int x2], hC0, 0, 0)) rfl ?_
    refine mEnds.brF (q' := (10, [some (.int x2), some (.int 0), some (.int 2)], [], hC0, 0, 0)) rfl f3 rfl ?_
    refine mEnds.steps 2 (q' := (15, [some (.int x2), some (.int 0), some (.int 2)], [.int 1], hC0, 0, 0)) rfl ?_
    exact mEnds.ret rfl
  show mEnds [] 20 102 (15, [some (.ref 1), some (.int 1), some (.int x2), some (.int x3), some (.int x4), none, none, none, none, none, none], [.int 1], hC0, 0, 0) _
  refine mEnds.steps 4 (q' := (23, [some (.ref 1), some (.int 1), some (.int x2), some (.int x3), some (.int x4), none, none, none, none, none, none], [.int 20, .int 0, .int x4], hC0, 0, 0)) rfl ?_
  refine mEnds.call (d := 19) (y' := 105) (as := [.int x4, .int 0, .int 20]) (q' := (26, [some (.ref 1), some (.int 1), some (.int x2), some (.int x3), some (.int x4), none, none, none, none, none, none], [], hC0, 0, 0)) (v := some (.int 1)) (hs' := hC0) (c' := 0) (s' := 0) rfl rfl ?_ ?_
  · refine mEnds.steps 2 (q' := (2, [some (.int x4), some (.int 0), some (.int 20)], [.int 0, .int x4], hC0, 0, 0)) rfl ?_
    refine mEnds.brF (q' := (5, [some (.int x4), some (.int 0), some (.int 20)], [], hC0, 0, 0)) rfl f4 rfl ?_
    refine mEnds.steps 2 (q' := (7, [some (.int x4), some (.int 0), some (.int 20)], [.int 20, .int x4], hC0, 0, 0)) rfl ?_
    refine mEnds.brF (q' := (10, [some (.int x4), some (.int 0), some (.int 20)], [], hC0, 0, 0)) rfl f5 rfl ?_
    refine mEnds.steps 2 (q' := (15, [some (.int x4), some (.int 0), some (.int 20)], [.int 1], hC0, 0, 0)) rfl ?_
    exact mEnds.ret rfl
  show mEnds [] 20 102 (26, [some (.ref 1), some (.int 1), some (.int x2), some (.int x3), some (.int x4), none, none, none, none, none, none], [.int 1], hC0, 0, 0) _
  refine mEnds.steps 7 (q' := (40, [some (.ref 1), some (.int 1), some (.int x2), some (.int x3), some (.int x4), some (.ref 126), none, none, none, none, none], [.ref 1], hC0, 0, 0)) rfl ?_
  refine mEnds.call (d := 19) (y' := 109) (as := [.ref 1]) (q' := (43, [some (.ref 1), some (.int 1), some (.int x2), some (.int x3), some (.int x4), some (.ref 126), none, none, none, none, none], [], hC0, 0, 0)) (v := some (.ref 44)) (hs' := hC0) (c' := 0) (s' := 0) rfl rfl ?_ ?_
  · exact mEnds.deep cpn 9
  show mEnds [] 20 102 (43, [some (.ref 1), some (.int 1), some (.int x2), some (.int x3), some (.int x4), some (.ref 126), none, none, none, none, none], [.ref 44], hC0, 0, 0) _
  refine mEnds.steps 9 (q' := (58, [some (.ref 1), some (.int 1), some (.int x2), some (.int x3), some (.int x4), some (.ref 126), some (.ref 44), some (.int 0), some (.int 0), some (.int 0), none], [.int x4, .int 0], hC0, 0, 0)) rfl ?_
  refine mEnds.brT (q' := (130, [some (.ref 1), some (.int 1), some (.int x2), some (.int x3), some (.int x4), some (.ref 126), some (.ref 44), some (.int 0), some (.int 0), some (.int 0), none], [], hC0, 0, 0)) rfl (mtk_ge f6) rfl ?_
  refine mEnds.steps 3 (q' := (136, [some (.ref 1), some (.int 1), some (.int x2), some (.int x3), some (.int x4), some (.ref 126), some (.ref 44), some (.int 0), some (.int 0), some (.int 0), none], [.ref 44, .ref 2], hC0, 0, 0)) rfl ?_
  refine mEnds.call (d := 19) (y' := 7) (as := [.ref 2, .ref 44]) (q' := (139, [some (.ref 1), some (.int 1), some (.int x2), some (.int x3), some (.int x4), some (.ref 126), some (.ref 44), some (.int 0), some (.int 0), some (.int 0), none], [], hC0, 0, 0)) (v := none) (hs' := hC0) (c' := 0) (s' := 0) rfl rfl ?_ ?_
  · exact mEnds.deep cpf 9
  show mEnds [] 20 102 (139, [some (.ref 1), some (.int 1), some (.int x2), some (.int x3), some (.int x4), some (.ref 126), some (.ref 44), some (.int 0), some (.int 0), some (.int 0), none], [], hC0, 0, 0) _
  refine mEnds.steps 4 (q' := (147, [some (.ref 1), some (.int 1), some (.int x2), some (.int x3), some (.int x4), some (.ref 126), some (.ref 44), some (.int 0), some (.int 0), some (.int 0), none], [.int 0], (hC0.set 1 (.inr (4, [.ref 2, .ref 10, .ref 11, .ref 12, .ref 13, .ref 14, .ref 18, .int 0]))), 0, 0)) rfl ?_
  exact mEnds.ret rfl
set_option maxRecDepth 100000 in
theorem c36_FFFFFFv1_ (x2 x3 x4 : Int32) (f2 : decide (x2 < 0) = false) (f3 : decide (2 < x2) = false) (f4 : decide (x4 < 0) = false) (f5 : decide (20 < x4) = false) : ∃ hs', mEnds [] 20 102 (mentry 102 [.ref 1, .int 1, .int x2, .int x3, .int x4] hC0) (some (.int 0), hs', 0, 0) := by
  cases f6 : decide (0 < x4) with
  | true =>
    cases f7 : decide (1 < x4) with
    | true =>
      exact c36_FFFFFFv1TT x2 x3 x4 f2 f3 f4 f5 f6 f7
    | false =>
      exact c36_FFFFFFv1TF x2 x3 x4 f2 f3 f4 f5 f6 f7
  | false =>
    exact c36_FFFFFFv1F x2 x3 x4 f2 f3 f4 f5 f6
set_option maxRecDepth 100000 in
theorem m36_FFFFFFv1TT (x2 x3 x4 : Int32) (f2 : decide (x2 < 0) = false) (f3 : decide (2 < x2) = false) (f4 : decide (x4 < 0) = false) (f5 : decide (20 < x4) = false) (f6 : decide (0 < (2 * x4)) = true) (f7 : decide (1 < (2 * x4)) = true) : ∃ hs', mEnds [] 20 181 (mentry 181 [.ref 1, .int 1, .int x2, .int x3, .int x4] hM0) (some (.int 0), hs', 0, 0) := by
  refine ⟨(hM0.set 1 (.inr (5, [.ref 2, .int 0, .ref 3, .int 0, .int 0, .int 0, .int 0, .ref 4, .int 0, .int 0, .int 0, .int 0, .int 0, .int 0, .int 0, .int 0, .ref 5, .ref 6, .ref 7, .int 0, .int 0, .ref 8, .int 0, .ref 9, .ref 10, .ref 11, .ref 12, .ref 13, .int 1]))), ?_⟩
  refine mEnds.steps 4 (q' := (6, [some (.ref 1), some (.int 1), some (.int x2), some (.int x3), some (.int x4), none, none, none, none, none], [.long 3, .long 0, .long 1], hM0, 0, 0)) rfl ?_
  refine mEnds.call (d := 19) (y' := 111) (as := [.long 1, .long 0, .long 3]) (q' := (9, [some (.ref 1), some (.int 1), some (.int x2), some (.int x3), some (.int x4), none, none, none, none, none], [], hM0, 0, 0)) (v := some (.int 1)) (hs' := hM0) (c' := 0) (s' := 0) rfl rfl ?_ ?_
  · refine mEnds.steps 10 (q' := (18, [some (.long 1), none, some (.long 0), none, some (.long 3), none], [.int 1], hM0, 0, 0)) rfl ?_
    exact mEnds.ret rfl
  show mEnds [] 20 181 (9, [some (.ref 1), some (.int 1), some (.int x2), some (.int x3), some (.int x4), none, none, none, none, none], [.int 1], hM0, 0, 0) _
  refine mEnds.steps 5 (q' := (18, [some (.ref 1), some (.int 1), some (.int x2), some (.int x3), some (.int x4), none, none, none, none, none], [.long 2, .long 0, .long x2.toInt64], hM0, 0, 0)) rfl ?_
  refine mEnds.call (d := 19) (y' := 111) (as := [.long x2.toInt64, .long 0, .long 2]) (q' := (21, [some (.ref 1), some (.int 1), some (.int x2), some (.int x3), some (.int x4), none, none, none, none, none], [], hM0, 0, 0)) (v := some (.int 1)) (hs' := hM0) (c' := 0) (s' := 0) rfl rfl ?_ ?_
  · refine mEnds.steps 3 (q' := (3, [some (.long x2.toInt64), none, some (.long 0), none, some (.long 2), none], [.int (lg_cmp x2.toInt64 0)], hM0, 0, 0)) rfl ?_
    refine mEnds.brF (q' := (6, [some (.long x2.toInt64), none, some (.long 0), none, some (.long 2), none], [], hM0, 0, 0)) rfl (lgc_lt (c := 0) (by decide) f2) rfl ?_
    refine mEnds.steps 3 (q' := (10, [some (.long x2.toInt64), none, some (.long 0), none, some (.long 2), none], [.int (lg_cmp x2.toInt64 2)], hM0, 0, 0)) rfl ?_
    refine mEnds.brF (q' := (13, [some (.long x2.toInt64), none, some (.long 0), none, some (.long 2), none], [], hM0, 0, 0)) rfl (lgc_gt (c := 2) (by decide) f3) rfl ?_
    refine mEnds.steps 2 (q' := (18, [some (.long x2.toInt64), none, some (.long 0), none, some (.long 2), none], [.int 1], hM0, 0, 0)) rfl ?_
    exact mEnds.ret rfl
  show mEnds [] 20 181 (21, [some (.ref 1), some (.int 1), some (.int x2), some (.int x3), some (.int x4), none, none, none, none, none], [.int 1], hM0, 0, 0) _
  refine mEnds.steps 5 (q' := (31, [some (.ref 1), some (.int 1), some (.int x2), some (.int x3), some (.int x4), none, none, none, none, none], [.long 20, .long 0, .long x4.toInt64], hM0, 0, 0)) rfl ?_
  refine mEnds.call (d := 19) (y' := 111) (as := [.long x4.toInt64, .long 0, .long 20]) (q' := (34, [some (.ref 1), some (.int 1), some (.int x2), some (.int x3), some (.int x4), none, none, none, none, none], [], hM0, 0, 0)) (v := some (.int 1)) (hs' := hM0) (c' := 0) (s' := 0) rfl rfl ?_ ?_
  · refine mEnds.steps 3 (q' := (3, [some (.long x4.toInt64), none, some (.long 0), none, some (.long 20), none], [.int (lg_cmp x4.toInt64 0)], hM0, 0, 0)) rfl ?_
    refine mEnds.brF (q' := (6, [some (.long x4.toInt64), none, some (.long 0), none, some (.long 20), none], [], hM0, 0, 0)) rfl (lgc_lt (c := 0) (by decide) f4) rfl ?_
    refine mEnds.steps 3 (q' := (10, [some (.long x4.toInt64), none, some (.long 0), none, some (.long 20), none], [.int (lg_cmp x4.toInt64 20)], hM0, 0, 0)) rfl ?_
    refine mEnds.brF (q' := (13, [some (.long x4.toInt64), none, some (.long 0), none, some (.long 20), none], [], hM0, 0, 0)) rfl (lgc_gt (c := 20) (by decide) f5) rfl ?_
    refine mEnds.steps 2 (q' := (18, [some (.long x4.toInt64), none, some (.long 0), none, some (.long 20), none], [.int 1], hM0, 0, 0)) rfl ?_
    exact mEnds.ret rfl
  show mEnds [] 20 181 (34, [some (.ref 1), some (.int 1), some (.int x2), some (.int x3), some (.int x4), none, none, none, none, none], [.int 1], hM0, 0, 0) _
  refine mEnds.steps 4 (q' := (44, [some (.ref 1), some (.int 1), some (.int x2), some (.int x3), some (.int x4), none, none, none, none, none], [.int 156, .int 0, .ref 1], hM0, 0, 0)) rfl ?_
  refine mEnds.call (d := 19) (y' := 152) (as := [.ref 1, .int 0, .int 156]) (q' := (47, [some (.ref 1), some (.int 1), some (.int x2), some (.int x3), some (.int x4), none, none, none, none, none], [], hM0, 0, 0)) (v := none) (hs' := hM0) (c' := 0) (s' := 0) rfl rfl ?_ ?_
  · exact mEnds.deep cp_0_156 9
  show mEnds [] 20 181 (47, [some (.ref 1), some (.int 1), some (.int x2), some (.int x3), some (.int x4), none, none, none, none, none], [], hM0, 0, 0) _
  refine mEnds.steps 10 (q' := (62, [some (.ref 1), some (.int 1), some (.int x2), some (.int x3), some (.int x4), some (.int 0), some (.int 0), some (.int 0), none, none], [.int (2 * x4), .int 0], hM0, 0, 0)) rfl ?_
  refine mEnds.brF (q' := (65, [some (.ref 1), some (.int 1), some (.int x2), some (.int x3), some (.int x4), some (.int 0), some (.int 0), some (.int 0), none, none], [], hM0, 0, 0)) rfl (mtk_ge f6) rfl ?_
  refine mEnds.steps 19 (q' := (62, [some (.ref 1), some (.int 1), some (.int x2), some (.int x3), some (.int x4), some (.int 1), some (.int 0), some (.int 1), none, none], [.int (2 * x4), .int 1], hM0, 0, 0)) rfl ?_
  refine mEnds.brF (q' := (65, [some (.ref 1), some (.int 1), some (.int x2), some (.int x3), some (.int x4), some (.int 1), some (.int 0), some (.int 1), none, none], [], hM0, 0, 0)) rfl (mtk_ge f7) rfl ?_
  refine mEnds.steps 6 (q' := (236, [some (.ref 1), some (.int 1), some (.int x2), some (.int x3), some (.int x4), some (.int 1), some (.int 0), some (.int 1), none, none], [.int 0], (hM0.set 1 (.inr (5, [.ref 2, .int 0, .ref 3, .int 0, .int 0, .int 0, .int 0, .ref 4, .int 0, .int 0, .int 0, .int 0, .int 0, .int 0, .int 0, .int 0, .ref 5, .ref 6, .ref 7, .int 0, .int 0, .ref 8, .int 0, .ref 9, .ref 10, .ref 11, .ref 12, .ref 13, .int 1]))), 0, 0)) rfl ?_
  exact mEnds.ret rfl
set_option maxRecDepth 100000 in
theorem m36_FFFFFFv1TF (x2 x3 x4 : Int32) (f2 : decide (x2 < 0) = false) (f3 : decide (2 < x2) = false) (f4 : decide (x4 < 0) = false) (f5 : decide (20 < x4) = false) (f6 : decide (0 < (2 * x4)) = true) (f7 : decide (1 < (2 * x4)) = false) : ∃ hs', mEnds [] 20 181 (mentry 181 [.ref 1, .int 1, .int x2, .int x3, .int x4] hM0) (some (.int 0), hs', 0, 0) := by
  refine ⟨(hM0.set 1 (.inr (5, [.ref 2, .int 0, .ref 3, .int 0, .int 0, .int 0, .int 0, .ref 4, .int 0, .int 0, .int 0, .int 0, .int 0, .int 0, .int 0, .int 0, .ref 5, .ref 6, .ref 7, .int 0, .int 0, .ref 8, .int 0, .ref 9, .ref 10, .ref 11, .ref 12, .ref 13, .int 1]))), ?_⟩
  refine mEnds.steps 4 (q' := (6, [some (.ref 1), some (.int 1), some (.int x2), some (.int x3), some (.int x4), none, none, none, none, none], [.long 3, .long 0, .long 1], hM0, 0, 0)) rfl ?_
  refine mEnds.call (d := 19) (y' := 111) (as := [.long 1, .long 0, .long 3]) (q' := (9, [some (.ref 1), some (.int 1), some (.int x2), some (.int x3), some (.int x4), none, none, none, none, none], [], hM0, 0, 0)) (v := some (.int 1)) (hs' := hM0) (c' := 0) (s' := 0) rfl rfl ?_ ?_
  · refine mEnds.steps 10 (q' := (18, [some (.long 1), none, some (.long 0), none, some (.long 3), none], [.int 1], hM0, 0, 0)) rfl ?_
    exact mEnds.ret rfl
  show mEnds [] 20 181 (9, [some (.ref 1), some (.int 1), some (.int x2), some (.int x3), some (.int x4), none, none, none, none, none], [.int 1], hM0, 0, 0) _
  refine mEnds.steps 5 (q' := (18, [some (.ref 1), some (.int 1), some (.int x2), some (.int x3), some (.int x4), none, none, none, none, none], [.long 2, .long 0, .long x2.toInt64], hM0, 0, 0)) rfl ?_
  refine mEnds.call (d := 19) (y' := 111) (as := [.long x2.toInt64, .long 0, .long 2]) (q' := (21, [some (.ref 1), some (.int 1), some (.int x2), some (.int x3), some (.int x4), none, none, none, none, none], [], hM0, 0, 0)) (v := some (.int 1)) (hs' := hM0) (c' := 0) (s' := 0) rfl rfl ?_ ?_
  · refine mEnds.steps 3 (q' := (3, [some (.long x2.toInt64), none, some (.long 0), none, some (.long 2), none], [.int (lg_cmp x2.toInt64 0)], hM0, 0, 0)) rfl ?_
    refine mEnds.brF (q' := (6, [some (.long x2.toInt64), none, some (.long 0), none, some (.long 2), none], [], hM0, 0, 0)) rfl (lgc_lt (c := 0) (by decide) f2) rfl ?_
    refine mEnds.steps 3 (q' := (10, [some (.long x2.toInt64), none, some (.long 0), none, some (.long 2), none], [.int (lg_cmp x2.toInt64 2)], hM0, 0, 0)) rfl ?_
    refine mEnds.brF (q' := (13, [some (.long x2.toInt64), none, some (.long 0), none, some (.long 2), none], [], hM0, 0, 0)) rfl (lgc_gt (c := 2) (by decide) f3) rfl ?_
    refine mEnds.steps 2 (q' := (18, [some (.long x2.toInt64), none, some (.long 0), none, some (.long 2), none], [.int 1], hM0, 0, 0)) rfl ?_
    exact mEnds.ret rfl
  show mEnds [] 20 181 (21, [some (.ref 1), some (.int 1), some (.int x2), some (.int x3), some (.int x4), none, none, none, none, none], [.int 1], hM0, 0, 0) _
  refine mEnds.steps 5 (q' := (31, [some (.ref 1), some (.int 1), some (.int x2), some (.int x3), some (.int x4), none, none, none, none, none], [.long 20, .long 0, .long x4.toInt64], hM0, 0, 0)) rfl ?_
  refine mEnds.call (d := 19) (y' := 111) (as := [.long x4.toInt64, .long 0, .long 20]) (q' := (34, [some (.ref 1), some (.int 1), some (.int x2), some (.int x3), some (.int x4), none, none, none, none, none], [], hM0, 0, 0)) (v := some (.int 1)) (hs' := hM0) (c' := 0) (s' := 0) rfl rfl ?_ ?_
  · refine mEnds.steps 3 (q' := (3, [some (.long x4.toInt64), none, some (.long 0), none, some (.long 20), none], [.int (lg_cmp x4.toInt64 0)], hM0, 0, 0)) rfl ?_
    refine mEnds.brF (q' := (6, [some (.long x4.toInt64), none, some (.long 0), none, some (.long 20), none], [], hM0, 0, 0)) rfl (lgc_lt (c := 0) (by decide) f4) rfl ?_
    refine mEnds.steps 3 (q' := (10, [some (.long x4.toInt64), none, some (.long 0), none, some (.long 20), none], [.int (lg_cmp x4.toInt64 20)], hM0, 0, 0)) rfl ?_
    refine mEnds.brF (q' := (13, [some (.long x4.toInt64), none, some (.long 0), none, some (.long 20), none], [], hM0, 0, 0)) rfl (lgc_gt (c := 20) (by decide) f5) rfl ?_
    refine mEnds.steps 2 (q' := (18, [some (.long x4.toInt64), none, some (.long 0), none, some (.long 20), none], [.int 1], hM0, 0, 0)) rfl ?_
    exact mEnds.ret rfl
  show mEnds [] 20 181 (34, [some (.ref 1), some (.int 1), some (.int x2), some (.int x3), some (.int x4), none, none, none, none, none], [.int 1], hM0, 0, 0) _
  refine mEnds.steps 4 (q' := (44, [some (.ref 1), some (.int 1), some (.int x2), some (.int x3), some (.int x4), none, none, none, none, none], [.int 156, .int 0, .ref 1], hM0, 0, 0)) rfl ?_
  refine mEnds.call (d := 19) (y' := 152) (as := [.ref 1, .int 0, .int 156]) (q' := (47, [some (.ref 1), some (.int 1), some (.int x2), some (.int x3), some (.int x4), none, none, none, none, none], [], hM0, 0, 0)) (v := none) (hs' := hM0) (c' := 0) (s' := 0) rfl rfl ?_ ?_
  · exact mEnds.deep cp_0_156 9
  show mEnds [] 20 181 (47, [some (.ref 1), some (.int 1), some (.int x2), some (.int x3), some (.int x4), none, none, none, none, none], [], hM0, 0, 0) _
  refine mEnds.steps 10 (q' := (62, [some (.ref 1), some (.int 1), some (.int x2), some (.int x3), some (.int x4), some (.int 0), some (.int 0), some (.int 0), none, none], [.int (2 * x4), .int 0], hM0, 0, 0)) rfl ?_
  refine mEnds.brF (q' := (65, [some (.ref 1), some (.int 1), some (.int x2), some (.int x3), some (.int x4), some (.int 0), some (.int 0), some (.int 0), none, none], [], hM0, 0, 0)) rfl (mtk_ge f6) rfl ?_
  refine mEnds.steps 19 (q' := (62, [some (.ref 1), some (.int 1), some (.int x2), some (.int x3), some (.int x4), some (.int 1), some (.int 0), some (.int 1), none, none], [.int (2 * x4), .int 1], hM0, 0, 0)) rfl ?_
  refine mEnds.brT (q' := (228, [some (.ref 1), some (.int 1), some (.int x2), some (.int x3), some (.int x4), some (.int 1), some (.int 0), some (.int 1), none, none], [], hM0, 0, 0)) rfl (mtk_ge f7) rfl ?_
  refine mEnds.steps 4 (q' := (236, [some (.ref 1), some (.int 1), some (.int x2), some (.int x3), some (.int x4), some (.int 1), some (.int 0), some (.int 1), none, none], [.int 0], (hM0.set 1 (.inr (5, [.ref 2, .int 0, .ref 3, .int 0, .int 0, .int 0, .int 0, .ref 4, .int 0, .int 0, .int 0, .int 0, .int 0, .int 0, .int 0, .int 0, .ref 5, .ref 6, .ref 7, .int 0, .int 0, .ref 8, .int 0, .ref 9, .ref 10, .ref 11, .ref 12, .ref 13, .int 1]))), 0, 0)) rfl ?_
  exact mEnds.ret rfl
set_option maxRecDepth 100000 in
theorem m36_FFFFFFv1F (x2 x3 x4 : Int32) (f2 : decide (x2 < 0) = false) (f3 : decide (2 < x2) = false) (f4 : decide (x4 < 0) = false) (f5 : decide (20 < x4) = false) (f6 : decide (0 < (2 * x4)) = false) : ∃ hs', mEnds [] 20 181 (mentry 181 [.ref 1, .int 1, .int x2, .int x3, .int x4] hM0) (some (.int 0), hs', 0, 0) := by
  refine ⟨(hM0.set 1 (.inr (5, [.ref 2, .int 0, .ref 3, .int 0, .int 0, .int 0, .int 0, .ref 4, .int 0, .int 0, .int 0, .int 0, .int 0, .int 0, .int 0, .int 0, .ref 5, .ref 6, .ref 7, .int 0, .int 0, .ref 8, .int 0, .ref 9, .ref 10, .ref 11, .ref 12, .ref 13, .int 0]))), ?_⟩
  refine mEnds.steps 4 (q' := (6, [some (.ref 1), some (.int 1), some (.int x2), some (.int x3), some (.int x4), none, none, none, none, none], [.long 3, .long 0, .long 1], hM0, 0, 0)) rfl ?_
  refine mEnds.call (d := 19) (y' := 111) (as := [.long 1, .long 0, .long 3]) (q' := (9, [some (.ref 1), some (.int 1), some (.int x2), some (.int x3), some (.int x4), none, none, none, none, none], [], hM0, 0, 0)) (v := some (.int 1)) (hs' := hM0) (c' := 0) (s' := 0) rfl rfl ?_ ?_
  · refine mEnds.steps 10 (q' := (18, [some (.long 1), none, some (.long 0), none, some (.long 3), none], [.int 1], hM0, 0, 0)) rfl ?_
    exact mEnds.ret rfl
  show mEnds [] 20 181 (9, [some (.ref 1), some (.int 1), some (.int x2), some (.int x3), some (.int x4), none, none, none, none, none], [.int 1], hM0, 0, 0) _
  refine mEnds.steps 5 (q' := (18, [some (.ref 1), some (.int 1), some (.int x2), some (.int x3), some (.int x4), none, none, none, none, none], [.long 2, .long 0, .long x2.toInt64], hM0, 0, 0)) rfl ?_
  refine mEnds.call (d := 19) (y' := 111) (as := [.long x2.toInt64, .long 0, .long 2]) (q' := (21, [some (.ref 1), some (.int 1), some (.int x2), some (.int x3), some (.int x4), none, none, none, none, none], [], hM0, 0, 0)) (v := some (.int 1)) (hs' := hM0) (c' := 0) (s' := 0) rfl rfl ?_ ?_
  · refine mEnds.steps 3 (q' := (3, [some (.long x2.toInt64), none, some (.long 0), none, some (.long 2), none], [.int (lg_cmp x2.toInt64 0)], hM0, 0, 0)) rfl ?_
    refine mEnds.brF (q' := (6, [some (.long x2.toInt64), none, some (.long 0), none, some (.long 2), none], [], hM0, 0, 0)) rfl (lgc_lt (c := 0) (by decide) f2) rfl ?_
    refine mEnds.steps 3 (q' := (10, [some (.long x2.toInt64), none, some (.long 0), none, some (.long 2), none], [.int (lg_cmp x2.toInt64 2)], hM0, 0, 0)) rfl ?_
    refine mEnds.brF (q' := (13, [some (.long x2.toInt64), none, some (.long 0), none, some (.long 2), none], [], hM0, 0, 0)) rfl (lgc_gt (c := 2) (by decide) f3) rfl ?_
    refine mEnds.steps 2 (q' := (18, [some (.long x2.toInt64), none, some (.long 0), none, some (.long 2), none], [.int 1], hM0, 0, 0)) rfl ?_
    exact mEnds.ret rfl
  show mEnds [] 20 181 (21, [some (.ref 1), some (.int 1), some (.int x2), some (.int x3), some (.int x4), none, none, none, none, none], [.int 1], hM0, 0, 0) _
  refine mEnds.steps 5 (q' := (31, [some (.ref 1), some (.int 1), some (.int x2), some (.int x3), some (.int x4), none, none, none, none, none], [.long 20, .long 0, .long x4.toInt64], hM0, 0, 0)) rfl ?_
  refine mEnds.call (d := 19) (y' := 111) (as := [.long x4.toInt64, .long 0, .long 20]) (q' := (34, [some (.ref 1), some (.int 1), some (.int x2), some (.int x3), some (.int x4), none, none, none, none, none], [], hM0, 0, 0)) (v := some (.int 1)) (hs' := hM0) (c' := 0) (s' := 0) rfl rfl ?_ ?_
  · refine mEnds.steps 3 (q' := (3, [some (.long x4.toInt64), none, some (.long 0), none, some (.long 20), none], [.int (lg_cmp x4.toInt64 0)], hM0, 0, 0)) rfl ?_
    refine mEnds.brF (q' := (6, [some (.long x4.toInt64), none, some (.long 0), none, some (.long 20), none], [], hM0, 0, 0)) rfl (lgc_lt (c := 0) (by decide) f4) rfl ?_
    refine mEnds.steps 3 (q' := (10, [some (.long x4.toInt64), none, some (.long 0), none, some (.long 20), none], [.int (lg_cmp x4.toInt64 20)], hM0, 0, 0)) rfl ?_
    refine mEnds.brF (q' := (13, [some (.long x4.toInt64), none, some (.long 0), none, some (.long 20), none], [], hM0, 0, 0)) rfl (lgc_gt (c := 20) (by decide) f5) rfl ?_
    refine mEnds.steps 2 (q' := (18, [some (.long x4.toInt64), none, some (.long 0), none, some (.long 20), none], [.int 1], hM0, 0, 0)) rfl ?_
    exact mEnds.ret rfl
  show mEnds [] 20 181 (34, [some (.ref 1), some (.int 1), some (.int x2), some (.int x3), some (.int x4), none, none, none, none, none], [.int 1], hM0, 0, 0) _
  refine mEnds.steps 4 (q' := (44, [some (.ref 1), some (.int 1), some (.int x2), some (.int x3), some (.int x4), none, none, none, none, none], [.int 156, .int 0, .ref 1], hM0, 0, 0)) rfl ?_
  refine mEnds.call (d := 19) (y' := 152) (as := [.ref 1, .int 0, .int 156]) (q' := (47, [some (.ref 1), some (.int 1), some (.int x2), some (.int x3), some (.int x4), none, none, none, none, none], [], hM0, 0, 0)) (v := none) (hs' := hM0) (c' := 0) (s' := 0) rfl rfl ?_ ?_
  · exact mEnds.deep cp_0_156 9
  show mEnds [] 20 181 (47, [some (.ref 1), some (.int 1), some (.int x2), some (.int x3), some (.int x4), none, none, none, none, none], [], hM0, 0, 0) _
  refine mEnds.steps 10 (q' := (62, [some (.ref 1), some (.int 1), some (.int x2), some (.int x3), some (.int x4), some (.int 0), some (.int 0), some (.int 0), none, none], [.int (2 * x4), .int 0], hM0, 0, 0)) rfl ?_
  refine mEnds.brT (q' := (228, [some (.ref 1), some (.int 1), some (.int x2), some (.int x3), some (.int x4), some (.int 0), some (.int 0), some (.int 0), none, none], [], hM0, 0, 0)) rfl (mtk_ge f6) rfl ?_
  refine mEnds.steps 4 (q' := (236, [some (.ref 1), some (.int 1), some (.int x2), some (.int x3), some (.int x4), some (.int 0), some (.int 0), some (.int 0), none, none], [.int 0], (hM0.set 1 (.inr (5, [.ref 2, .int 0, .ref 3, .int 0, .int 0, .int 0, .int 0, .ref 4, .int 0, .int 0, .int 0, .int 0, .int 0, .int 0, .int 0, .int 0, .ref 5, .ref 6, .ref 7, .int 0, .int 0, .ref 8, .int 0, .ref 9, .ref 10, .ref 11, .ref 12, .ref 13, .int 0]))), 0, 0)) rfl ?_
  exact mEnds.ret rfl
set_option maxRecDepth 100000 in
theorem m36_FFFFFFv1_ (x2 x3 x4 : Int32) (f2 : decide (x2 < 0) = false) (f3 : decide (2 < x2) = false) (f4 : decide (x4 < 0) = false) (f5 : decide (20 < x4) = false) : ∃ hs', mEnds [] 20 181 (mentry 181 [.ref 1, .int 1, .int x2, .int x3, .int x4] hM0) (some (.int 0), hs', 0, 0) := by
  cases f6 : decide (0 < (2 * x4)) with
  | true =>
    cases f7 : decide (1 < (2 * x4)) with
    | true =>
      exact m36_FFFFFFv1TT x2 x3 x4 f2 f3 f4 f5 f6 f7
    | false =>
      exact m36_FFFFFFv1TF x2 x3 x4 f2 f3 f4 f5 f6 f7
  | false =>
    exact m36_FFFFFFv1F x2 x3 x4 f2 f3 f4 f5 f6
set_option maxRecDepth 100000 in
theorem c36_FFFFFFv2TT (x2 x3 x4 : Int32) (f2 : decide (x2 < 0) = false) (f3 : decide (2 < x2) = false) (f4 : decide (x4 < 0) = false) (f5 : decide (20 < x4) = false) (f6 : decide (0 < x4) = true) (f7 : decide (1 < x4) = true) : ∃ hs', mEnds [] 20 102 (mentry 102 [.ref 1, .int 2, .int x2, .int x3, .int x4] hC0) (some (.int 0), hs', 0, 0) := by
  refine ⟨(hC0.set 1 (.inr (4, [.ref 2, .ref 10, .ref 11, .ref 12, .ref 13, .ref 14, .ref 18, .int 1]))), ?_⟩
  refine mEnds.steps 3 (q' := (3, [some (.ref 1), some (.int 2), some (.int x2), some (.int x3), some (.int x4), none, none, none, none, none, none], [.int 3, .int 0, .int 2], hC0, 0, 0)) rfl ?_
  refine mEnds.call (d := 19) (y' := 105) (as := [.int 2, .int 0, .int 3]) (q' := (6, [some (.ref 1), some (.int 2), some (.int x2), some (.int x3), some (.int x4), none, none, none, none, none, none], [], hC0, 0, 0)) (v := some (.int 1)) (hs' := hC0) (c' := 0) (s' := 0) rfl rfl ?_ ?_
  · refine mEnds.steps 8 (q' := (15, [some (.int 2), some (.int 0), some (.int 3)], [.int 1], hC0, 0, 0)) rfl ?_
    exact mEnds.ret rfl
  show mEnds [] 20 102 (6, [some (.ref 1), some (.int 2), some (.int x2), some (.int x3), some (.int x4), none, none, none, none, none, none], [.int 1], hC0, 0, 0) _
  refine mEnds.steps 4 (q' := (12, [some (.ref 1), some (.int 2), some (.int x2), some (.int x3), some (.int x4), none, none, none, none, none, none], [.int 2, .int 0, .int x2], hC0, 0, 0)) rfl ?_
  refine mEnds.call (d := 19) (y' := 105) (as := [.int x2, .int 0, .int 2]) (q' := (15, [some (.ref 1), some (.int 2), some (.int x2), some (.int x3), some (.int x4), none, none, none, none, none, none], [], hC0, 0, 0)) (v := some (.int 1)) (hs' := hC0) (c' := 0) (s' := 0) rfl rfl ?_ ?_
  · refine mEnds.steps 2 (q' := (2, [some (.int x2), some (.int 0), some (.int 2)], [.int 0, .int x2], hC0, 0, 0)) rfl ?_
    refine mEnds.brF (q' := (5, [some (.int x2), some (.int 0), some (.int 2)], [], hC0, 0, 0)) rfl f2 rfl ?_
    refine mEnds.steps 2 (q' := (7, [some (.int x2), some (.int 0), some (.int 2)], [.int 2, .int x2], hC0, 0, 0)) rfl ?_
    refine mEnds.brF (q' := (10, [some (.int x2), some (.int 0), some (.int 2)], [], hC0, 0, 0)) rfl f3 rfl ?_
    refine mEnds.steps 2 (q' := (15, [some (.int x2), some (.int 0), some (.int 2)], [.int 1], hC0, 0, 0)) rfl ?_
    exact mEnds.ret rfl
  show mEnds [] 20 102 (15, [some (.ref 1), some (.int 2), some (.int x2), some (.int x3), some (.int x4), none, none, none, none, none, none], [.int 1], hC0, 0, 0) _
  refine mEnds.steps 4 (q' := (23, [some (.ref 1), some (.int 2), some (.int x2), some (.int x3), some (.int x4), none, none, none, none, none, none], [.int 20, .int 0, .int x4], hC0, 0, 0)) rfl ?_
  refine mEnds.call (d := 19) (y' := 105) (as := [.int x4, .int 0, .int 20]) (q' := (26, [some (.ref 1), some (.int 2), some (.int x2), some (.int x3), some (.int x4), none, none, none, none, none, none], [], hC0, 0, 0)) (v := some (.int 1)) (hs' := hC0) (c' := 0) (s' := 0) rfl rfl ?_ ?_
  · refine mEnds.steps 2 (q' := (2, [some (.int x4), some (.int 0), some (.int 20)], [.int 0, .int x4], hC0, 0, 0)) rfl ?_
    refine mEnds.brF (q' := (5, [some (.int x4), some (.int 0), some (.int 20)], [], hC0, 0, 0)) rfl f4 rfl ?_
    refine mEnds.steps 2 (q' := (7, [some (.int x4), some (.int 0), some (.int 20)], [.int 20, .int x4], hC0, 0, 0)) rfl ?_
    refine mEnds.brF (q' := (10, [some (.int x4), some (.int 0), some (.int 20)], [], hC0, 0, 0)) rfl f5 rfl ?_
    refine mEnds.steps 2 (q' := (15, [some (.int x4), some (.int 0), some (.int 20)], [.int 1], hC0, 0, 0)) rfl ?_
    exact mEnds.ret rfl
  show mEnds [] 20 102 (26, [some (.ref 1), some (.int 2), some (.int x2), some (.int x3), some (.int x4), none, none, none, none, none, none], [.int 1], hC0, 0, 0) _
  refine mEnds.steps 7 (q' := (40, [some (.ref 1), some (.int 2), some (.int x2), some (.int x3), some (.int x4), some (.ref 128), none, none, none, none, none], [.ref 1], hC0, 0, 0)) rfl ?_
  refine mEnds.call (d := 19) (y' := 109) (as := [.ref 1]) (q' := (43, [some (.ref 1), some (.int 2), some (.int x2), some (.int x3), some (.int x4), some (.ref 128), none, none, none, none, none], [], hC0, 0, 0)) (v := some (.ref 44)) (hs' := hC0) (c' := 0) (s' := 0) rfl rfl ?_ ?_
  · exact mEnds.deep cpn 9
  show mEnds [] 20 102 (43, [some (.ref 1), some (.int 2), some (.int x2), some (.int x3), some (.int x4), some (.ref 128), none, none, none, none, none], [.ref 44], hC0, 0, 0) _
  refine mEnds.steps 9 (q' := (58, [some (.ref 1), some (.int 2), some (.int x2), some (.int x3), some (.int x4), some (.ref 128), some (.ref 44), some (.int 0), some (.int 0), some (.int 0), none], [.int x4, .int 0], hC0, 0, 0)) rfl ?_
  refine mEnds.brF (q' := (61, [some (.ref 1), some (.int 2), some (.int x2), some (.int x3), some (.int x4), some (.ref 128), some (.ref 44), some (.int 0), some (.int 0), some (.int 0), none], [], hC0, 0, 0)) rfl (mtk_ge f6) rfl ?_
  refine mEnds.steps 11 (q' := (79, [some (.ref 1), some (.int 2), some (.int x2), some (.int x3), some (.int x4), some (.ref 128), some (.ref 44), some (.int 0), some (.int 0), some (.int 0), some (.int (x3 + 0))], [.int (x3 + 0), .int x2, .ref 128], hC0, 0, 0)) rfl ?_
  refine mEnds.call (d := 19) (y' := 34) (as := [.ref 128, .int x2, .int (x3 + 0)]) (q' := (82, [some (.ref 1), some (.int 2), some (.int x2), some (.int x3), some (.int x4), some (.ref 128), some (.ref 44), some (.int 0), some (.int 0), some (.int 0), some (.int (x3 + 0))], [], hC0, 0, 0)) (v := some (.int 1)) (hs' := hC0) (c' := 0) (s' := 0) rfl rfl ?_ ?_
  · refine mEnds.steps 3 (q' := (3, [some (.ref 128), some (.int x2), some (.int (x3 + 0)), none], [.int (x3 + 0), .int x2, .ref 128], hC0, 0, 0)) rfl ?_
    refine mEnds.call (d := 18) (y' := 33) (as := [.ref 128, .int x2, .int (x3 + 0)]) (q' := (6, [some (.ref 128), some (.int x2), some (.int (x3 + 0)), none], [], hC0, 0, 0)) (v := some (.int 1)) (hs' := hC0) (c' := 0) (s' := 0) rfl rfl ?_ ?_
    · refine mEnds.steps 1 (q' := (1, [some (.ref 128), some (.int x2), some (.int (x3 + 0))], [.ref 128], hC0, 0, 0)) rfl ?_
      refine mEnds.call (d := 17) (y' := 30) (as := [.ref 128]) (q' := (4, [some (.ref 128), some (.int x2), some (.int (x3 + 0))], [], hC0, 0, 0)) (v := some (.int 0)) (hs' := hC0) (c' := 0) (s' := 0) rfl rfl ?_ ?_
      · refine mEnds.steps 5 (q' := (13, [some (.ref 128)], [.int 0], hC0, 0, 0)) rfl ?_
        exact mEnds.ret rfl
      show mEnds [] 18 33 (4, [some (.ref 128), some (.int x2), some (.int (x3 + 0))], [.int 0], hC0, 0, 0) _
      refine mEnds.steps 2 (q' := (8, [some (.ref 128), some (.int x2), some (.int (x3 + 0))], [.int 1], hC0, 0, 0)) rfl ?_
      exact mEnds.ret rfl
    show mEnds [] 19 34 (6, [some (.ref 128), some (.int x2), some (.int (x3 + 0)), none], [.int 1], hC0, 0, 0) _
    refine mEnds.steps 5 (q' := (23, [some (.ref 128), some (.int x2), some (.int (x3 + 0)), some (.int 1)], [.int 1], hC0, 0, 0)) rfl ?_
    exact mEnds.ret rfl
  show mEnds [] 20 102 (82, [some (.ref 1), some (.int 2), some (.int x2), some (.int x3), some (.int x4), some (.ref 128), some (.ref 44), some (.int 0), some (.int 0), some (.int 0), some (.int (x3 + 0))], [.int 1], hC0, 0, 0) _
  refine mEnds.steps 7 (q' := (58, [some (.ref 1), some (.int 2), some (.int x2), some (.int x3), some (.int x4), some (.ref 128), some (.ref 44), some (.int 1), some (.int 0), some (.int 1), some (.int (x3 + 0))], [.int x4, .int 1], hC0, 0, 0)) rfl ?_
  refine mEnds.brF (q' := (61, [some (.ref 1), some (.int 2), some (.int x2), some (.int x3), some (.int x4), some (.ref 128), some (.ref 44), some (.int 1), some (.int 0), some (.int 1), some (.int (x3 + 0))], [], hC0, 0, 0)) rfl (mtk_ge f7) rfl ?_
  refine mEnds.steps 5 (q' := (136, [some (.ref 1), some (.int 2), some (.int x2), some (.int x3), some (.int x4), some (.ref 128), some (.ref 44), some (.int 1), some (.int 0), some (.int 1), some (.int (x3 + 0))], [.ref 44, .ref 2], hC0, 0, 0)) rfl ?_
  refine mEnds.call (d := 19) (y' := 7) (as := [.ref 2, .ref 44]) (q' := (139, [some (.ref 1), some (.int 2), some (.int x2), some (.int x3), some (.int x4), some (.ref 128), some (.ref 44), some (.int 1), some (.int 0), some (.int 1), some (.int (x3 + 0))], [], hC0, 0, 0)) (v := none) (hs' := hC0) (c' := 0) (s' := 0) rfl rfl ?_ ?_
  · exact mEnds.deep cpf 9
  show mEnds [] 20 102 (139, [some (.ref 1), some (.int 2), some (.int x2), some (.int x3), some (.int x4), some (.ref 128), some (.ref 44), some (.int 1), some (.int 0), some (.int 1), some (.int (x3 + 0))], [], hC0, 0, 0) _
  refine mEnds.steps 4 (q' := (147, [some (.ref 1), some (.int 2), some (.int x2), some (.int x3), some (.int x4), some (.ref 128), some (.ref 44), some (.int 1), some (.int 0), some (.int 1), some (.int (x3 + 0))], [.int 0], (hC0.set 1 (.inr (4, [.ref 2, .ref 10, .ref 11, .ref 12, .ref 13, .ref 14, .ref 18, .int 1]))), 0, 0)) rfl ?_
  exact mEnds.ret rfl
set_option maxRecDepth 100000 in
theorem c36_FFFFFFv2TF (x2 x3 x4 : Int32) (f2 : decide (x2 < 0) = false) (f3 : decide (2 < x2) = false) (f4 : decide (x4 < 0) = false) (f5 : decide (20 < x4) = false) (f6 : decide (0 < x4) = true) (f7 : decide (1 < x4) = false) : ∃ hs', mEnds [] 20 102 (mentry 102 [.ref 1, .int 2, .int x2, .int x3, .int x4] hC0) (some (.int 0), hs', 0, 0) := by
  refine ⟨(hC0.set 1 (.inr (4, [.ref 2, .ref 10, .ref 11, .ref 12, .ref 13, .ref 14, .ref 18, .int 1]))), ?_⟩
  refine mEnds.steps 3 (q' := (3, [some (.ref 1), some (.int 2), some (.int x2), some (.int x3), some (.int x4), none, none, none, none, none, none], [.int 3, .int 0, .int 2], hC0, 0, 0)) rfl ?_
  refine mEnds.call (d := 19) (y' := 105) (as := [.int 2, .int 0, .int 3]) (q' := (6, [some (.ref 1), some (.int 2), some (.int x2), some (.int x3), some (.int x4), none, none, none, none, none, none], [], hC0, 0, 0)) (v := some (.int 1)) (hs' := hC0) (c' := 0) (s' := 0) rfl rfl ?_ ?_
  · refine mEnds.steps 8 (q' := (15, [some (.int 2), some (.int 0), some (.int 3)], [.int 1], hC0, 0, 0)) rfl ?_
    exact mEnds.ret rfl
  show mEnds [] 20 102 (6, [some (.ref 1), some (.int 2), some (.int x2), some (.int x3), some (.int x4), none, none, none, none, none, none], [.int 1], hC0, 0, 0) _
  refine mEnds.steps 4 (q' := (12, [some (.ref 1), some (.int 2), some (.int x2), some (.int x3), some (.int x4), none, none, none, none, none, none], [.int 2, .int 0, .int x2], hC0, 0, 0)) rfl ?_
  refine mEnds.call (d := 19) (y' := 105) (as := [.int x2, .int 0, .int 2]) (q' := (15, [some (.ref 1), some (.int 2), some (.int x2), some (.int x3), some (.int x4), none, none, none, none, none, none], [], hC0, 0, 0)) (v := some (.int 1)) (hs' := hC0) (c' := 0) (s' := 0) rfl rfl ?_ ?_
  · refine mEnds.steps 2 (q' := (2, [some (.int x2), some (.int 0), some (.int 2)], [.int 0, .int x2], hC0, 0, 0)) rfl ?_
    refine mEnds.brF (q' := (5, [some (.int x2), some (.int 0), some (.int 2)], [], hC0, 0, 0)) rfl f2 rfl ?_
    refine mEnds.steps 2 (q' := (7, [some (.int x2), some (.int 0), some (.int 2)], [.int 2, .int x2], hC0, 0, 0)) rfl ?_
    refine mEnds.brF (q' := (10, [some (.int x2), some (.int 0), some (.int 2)], [], hC0, 0, 0)) rfl f3 rfl ?_
    refine mEnds.steps 2 (q' := (15, [some (.int x2), some (.int 0), some (.int 2)], [.int 1], hC0, 0, 0)) rfl ?_
    exact mEnds.ret rfl
  show mEnds [] 20 102 (15, [some (.ref 1), some (.int 2), some (.int x2), some (.int x3), some (.int x4), none, none, none, none, none, none], [.int 1], hC0, 0, 0) _
  refine mEnds.steps 4 (q' := (23, [some (.ref 1), some (.int 2), some (.int x2), some (.int x3), some (.int x4), none, none, none, none, none, none], [.int 20, .int 0, .int x4], hC0, 0, 0)) rfl ?_
  refine mEnds.call (d := 19) (y' := 105) (as := [.int x4, .int 0, .int 20]) (q' := (26, [some (.ref 1), some (.int 2), some (.int x2), some (.int x3), some (.int x4), none, none, none, none, none, none], [], hC0, 0, 0)) (v := some (.int 1)) (hs' := hC0) (c' := 0) (s' := 0) rfl rfl ?_ ?_
  · refine mEnds.steps 2 (q' := (2, [some (.int x4), some (.int 0), some (.int 20)], [.int 0, .int x4], hC0, 0, 0)) rfl ?_
    refine mEnds.brF (q' := (5, [some (.int x4), some (.int 0), some (.int 20)], [], hC0, 0, 0)) rfl f4 rfl ?_
    refine mEnds.steps 2 (q' := (7, [some (.int x4), some (.int 0), some (.int 20)], [.int 20, .int x4], hC0, 0, 0)) rfl ?_
    refine mEnds.brF (q' := (10, [some (.int x4), some (.int 0), some (.int 20)], [], hC0, 0, 0)) rfl f5 rfl ?_
    refine mEnds.steps 2 (q' := (15, [some (.int x4), some (.int 0), some (.int 20)], [.int 1], hC0, 0, 0)) rfl ?_
    exact mEnds.ret rfl
  show mEnds [] 20 102 (26, [some (.ref 1), some (.int 2), some (.int x2), some (.int x3), some (.int x4), none, none, none, none, none, none], [.int 1], hC0, 0, 0) _
  refine mEnds.steps 7 (q' := (40, [some (.ref 1), some (.int 2), some (.int x2), some (.int x3), some (.int x4), some (.ref 128), none, none, none, none, none], [.ref 1], hC0, 0, 0)) rfl ?_
  refine mEnds.call (d := 19) (y' := 109) (as := [.ref 1]) (q' := (43, [some (.ref 1), some (.int 2), some (.int x2), some (.int x3), some (.int x4), some (.ref 128), none, none, none, none, none], [], hC0, 0, 0)) (v := some (.ref 44)) (hs' := hC0) (c' := 0) (s' := 0) rfl rfl ?_ ?_
  · exact mEnds.deep cpn 9
  show mEnds [] 20 102 (43, [some (.ref 1), some (.int 2), some (.int x2), some (.int x3), some (.int x4), some (.ref 128), none, none, none, none, none], [.ref 44], hC0, 0, 0) _
  refine mEnds.steps 9 (q' := (58, [some (.ref 1), some (.int 2), some (.int x2), some (.int x3), some (.int x4), some (.ref 128), some (.ref 44), some (.int 0), some (.int 0), some (.int 0), none], [.int x4, .int 0], hC0, 0, 0)) rfl ?_
  refine mEnds.brF (q' := (61, [some (.ref 1), some (.int 2), some (.int x2), some (.int x3), some (.int x4), some (.ref 128), some (.ref 44), some (.int 0), some (.int 0), some (.int 0), none], [], hC0, 0, 0)) rfl (mtk_ge f6) rfl ?_
  refine mEnds.steps 11 (q' := (79, [some (.ref 1), some (.int 2), some (.int x2), some (.int x3), some (.int x4), some (.ref 128), some (.ref 44), some (.int 0), some (.int 0), some (.int 0), some (.int (x3 + 0))], [.int (x3 + 0), .int x2, .ref 128], hC0, 0, 0)) rfl ?_
  refine mEnds.call (d := 19) (y' := 34) (as := [.ref 128, .int x2, .int (x3 + 0)]) (q' := (82, [some (.ref 1), some (.int 2), some (.int x2), some (.int x3), some (.int x4), some (.ref 128), some (.ref 44), some (.int 0), some (.int 0), some (.int 0), some (.int (x3 + 0))], [], hC0, 0, 0)) (v := some (.int 1)) (hs' := hC0) (c' := 0) (s' := 0) rfl rfl ?_ ?_
  · refine mEnds.steps 3 (q' := (3, [some (.ref 128), some (.int x2), some (.int (x3 + 0)), none], [.int (x3 + 0), .int x2, .ref 128], hC0, 0, 0)) rfl ?_
    refine mEnds.call (d := 18) (y' := 33) (as := [.ref 128, .int x2, .int (x3 + 0)]) (q' := (6, [some (.ref 128), some (.int x2), some (.int (x3 + 0)), none], [], hC0, 0, 0)) (v := some (.int 1)) (hs' := hC0) (c' := 0) (s' := 0) rfl rfl ?_ ?_
    · refine mEnds.steps 1 (q' := (1, [some (.ref 128), some (.int x2), some (.int (x3 + 0))], [.ref 128], hC0, 0, 0)) rfl ?_
      refine mEnds.call (d := 17) (y' := 30) (as := [.ref 128]) (q' := (4, [some (.ref 128), some (.int x2), some (.int (x3 + 0))], [], hC0, 0, 0)) (v := some (.int 0)) (hs' := hC0) (c' := 0) (s' := 0) rfl rfl ?_ ?_
      · refine mEnds.steps 5 (q' := (13, [some (.ref 128)], [.int 0], hC0, 0, 0)) rfl ?_
        exact mEnds.ret rfl
      show mEnds [] 18 33 (4, [some (.ref 128), some (.int x2), some (.int (x3 + 0))], [.int 0], hC0, 0, 0) _
      refine mEnds.steps 2 (q' := (8, [some (.ref 128), some (.int x2), some (.int (x3 + 0))], [.int 1], hC0, 0, 0)) rfl ?_
      exact mEnds.ret rfl
    show mEnds [] 19 34 (6, [some (.ref 128), some (.int x2), some (.int (x3 + 0)), none], [.int 1], hC0, 0, 0) _
    refine mEnds.steps 5 (q' := (23, [some (.ref 128), some (.int x2), some (.int (x3 + 0)), some (.int 1)], [.int 1], hC0, 0, 0)) rfl ?_
    exact mEnds.ret rfl
  show mEnds [] 20 102 (82, [some (.ref 1), some (.int 2), some (.int x2), some (.int x3), some (.int x4), some (.ref 128), some (.ref 44), some (.int 0), some (.int 0), some (.int 0), some (.int (x3 + 0))], [.int 1], hC0, 0, 0) _
  refine mEnds.steps 7 (q' := (58, [some (.ref 1), some (.int 2), some (.int x2), some (.int x3), some (.int x4), some (.ref 128), some (.ref 44), some (.int 1), some (.int 0), some (.int 1), some (.int (x3 + 0))], [.int x4, .int 1], hC0, 0, 0)) rfl ?_
  refine mEnds.brT (q' := (130, [some (.ref 1), some (.int 2), some (.int x2), some (.int x3), some (.int x4), some (.ref 128), some (.ref 44), some (.int 1), some (.int 0), some (.int 1), some (.int (x3 + 0))], [], hC0, 0, 0)) rfl (mtk_ge f7) rfl ?_
  refine mEnds.steps 3 (q' := (136, [some (.ref 1), some (.int 2), some (.int x2), some (.int x3), some (.int x4), some (.ref 128), some (.ref 44), some (.int 1), some (.int 0), some (.int 1), some (.int (x3 + 0))], [.ref 44, .ref 2], hC0, 0, 0)) rfl ?_
  refine mEnds.call (d := 19) (y' := 7) (as := [.ref 2, .ref 44]) (q' := (139, [some (.ref 1), some (.int 2), some (.int x2), some (.int x3), some (.int x4), some (.ref 128), some (.ref 44), some (.int 1), some (.int 0), some (.int 1), some (.int (x3 + 0))], [], hC0, 0, 0)) (v := none) (hs' := hC0) (c' := 0) (s' := 0) rfl rfl ?_ ?_
  · exact mEnds.deep cpf 9
  show mEnds [] 20 102 (139, [some (.ref 1), some (.int 2), some (.int x2), some (.int x3), some (.int x4), some (.ref 128), some (.ref 44), some (.int 1), some (.int 0), some (.int 1), some (.int (x3 + 0))], [], hC0, 0, 0) _
  refine mEnds.steps 4 (q' := (147, [some (.ref 1), some (.int 2), some (.int x2), some (.int x3), some (.int x4), some (.ref 128), some (.ref 44), some (.int 1), some (.int 0), some (.int 1), some (.int (x3 + 0))], [.int 0], (hC0.set 1 (.inr (4, [.ref 2, .ref 10, .ref 11, .ref 12, .ref 13, .ref 14, .ref 18, .int 1]))), 0, 0)) rfl ?_
  exact mEnds.ret rfl
set_option maxRecDepth 100000 in
theorem c36_FFFFFFv2F (x2 x3 x4 : Int32) (f2 : decide (x2 < 0) = false) (f3 : decide (2 < x2) = false) (f4 : decide (x4 < 0) = false) (f5 : decide (20 < x4) = false) (f6 : decide (0 < x4) = false) : ∃ hs', mEnds [] 20 102 (mentry 102 [.ref 1, .int 2, .int x2, .int x3, .int x4] hC0) (some (.int 0), hs', 0, 0) := by
  refine ⟨(hC0.set 1 (.inr (4, [.ref 2, .ref 10, .ref 11, .ref 12, .ref 13, .ref 14, .ref 18, .int 0]))), ?_⟩
  refine mEnds.steps 3 (q' := (3, [some (.ref 1), some (.int 2), some (.int x2), some (.int x3), some (.int x4), none, none, none, none, none, none], [.int 3, .int 0, .int 2], hC0, 0, 0)) rfl ?_
  refine mEnds.call (d := 19) (y' := 105) (as := [.int 2, .int 0, .int 3]) (q' := (6, [some (.ref 1), some (.int 2), some (.int x2), some (.int x3), some (.int x4), none, none, none, none, none, none], [], hC0, 0, 0)) (v := some (.int 1)) (hs' := hC0) (c' := 0) (s' := 0) rfl rfl ?_ ?_
  · refine mEnds.steps 8 (q' := (15, [some (.int 2), some (.int 0), some (.int 3)], [.int 1], hC0, 0, 0)) rfl ?_
    exact mEnds.ret rfl
  show mEnds [] 20 102 (6, [some (.ref 1), some (.int 2), some (.int x2), some (.int x3), some (.int x4), none, none, none, none, none, none], [.int 1], hC0, 0, 0) _
  refine mEnds.steps 4 (q' := (12, [some (.ref 1), some (.int 2), some (.int x2), some (.int x3), some (.int x4), none, none, none, none, none, none], [.int 2, .int 0, .int x2], hC0, 0, 0)) rfl ?_
  refine mEnds.call (d := 19) (y' := 105) (as := [.int x2, .int 0, .int 2]) (q' := (15, [some (.ref 1), some (.int 2), some (.int x2), some (.int x3), some (.int x4), none, none, none, none, none, none], [], hC0, 0, 0)) (v := some (.int 1)) (hs' := hC0) (c' := 0) (s' := 0) rfl rfl ?_ ?_
  · refine mEnds.steps 2 (q' := (2, [some (.int x2), some (.int 0), some (.int 2)], [.int 0, .int x2], hC0, 0, 0)) rfl ?_
    refine mEnds.brF (q' := (5, [some (.int x2), some (.int 0), some (.int 2)], [], hC0, 0, 0)) rfl f2 rfl ?_
    refine mEnds.steps 2 (q' := (7, [some (.int x2), some (.int 0), some (.int 2)], [.int 2, .int x2], hC0, 0, 0)) rfl ?_
    refine mEnds.brF (q' := (10, [some (.int x2), some (.int 0), some (.int 2)], [], hC0, 0, 0)) rfl f3 rfl ?_
    refine mEnds.steps 2 (q' := (15, [some (.int x2), some (.int 0), some (.int 2)], [.int 1], hC0, 0, 0)) rfl ?_
    exact mEnds.ret rfl
  show mEnds [] 20 102 (15, [some (.ref 1), some (.int 2), some (.int x2), some (.int x3), some (.int x4), none, none, none, none, none, none], [.int 1], hC0, 0, 0) _
  refine mEnds.steps 4 (q' := (23, [some (.ref 1), some (.int 2), some (.int x2), some (.int x3), some (.int x4), none, none, none, none, none, none], [.int 20, .int 0, .int x4], hC0, 0, 0)) rfl ?_
  refine mEnds.call (d := 19) (y' := 105) (as := [.int x4, .int 0, .int 20]) (q' := (26, [some (.ref 1), some (.int 2), some (.int x2), some (.int x3), some (.int x4), none, none, none, none, none, none], [], hC0, 0, 0)) (v := some (.int 1)) (hs' := hC0) (c' := 0) (s' := 0) rfl rfl ?_ ?_
  · refine mEnds.steps 2 (q' := (2, [some (.int x4), some (.int 0), some (.int 20)], [.int 0, .int x4], hC0, 0, 0)) rfl ?_
    refine mEnds.brF (q' := (5, [some (.int x4), some (.int 0), some (.int 20)], [], hC0, 0, 0)) rfl f4 rfl ?_
    refine mEnds.steps 2 (q' := (7, [some (.int x4), some (.int 0), some (.int 20)], [.int 20, .int x4], hC0, 0, 0)) rfl ?_
    refine mEnds.brF (q' := (10, [some (.int x4), some (.int 0), some (.int 20)], [], hC0, 0, 0)) rfl f5 rfl ?_
    refine mEnds.steps 2 (q' := (15, [some (.int x4), some (.int 0), some (.int 20)], [.int 1], hC0, 0, 0)) rfl ?_
    exact mEnds.ret rfl
  show mEnds [] 20 102 (26, [some (.ref 1), some (.int 2), some (.int x2), some (.int x3), some (.int x4), none, none, none, none, none, none], [.int 1], hC0, 0, 0) _
  refine mEnds.steps 7 (q' := (40, [some (.ref 1), some (.int 2), some (.int x2), some (.int x3), some (.int x4), some (.ref 128), none, none, none, none, none], [.ref 1], hC0, 0, 0)) rfl ?_
  refine mEnds.call (d := 19) (y' := 109) (as := [.ref 1]) (q' := (43, [some (.ref 1), some (.int 2), some (.int x2), some (.int x3), some (.int x4), some (.ref 128), none, none, none, none, none], [], hC0, 0, 0)) (v := some (.ref 44)) (hs' := hC0) (c' := 0) (s' := 0) rfl rfl ?_ ?_
  · exact mEnds.deep cpn 9
  show mEnds [] 20 102 (43, [some (.ref 1), some (.int 2), some (.int x2), some (.int x3), some (.int x4), some (.ref 128), none, none, none, none, none], [.ref 44], hC0, 0, 0) _
  refine mEnds.steps 9 (q' := (58, [some (.ref 1), some (.int 2), some (.int x2), some (.int x3), some (.int x4), some (.ref 128), some (.ref 44), some (.int 0), some (.int 0), some (.int 0), none], [.int x4, .int 0], hC0, 0, 0)) rfl ?_
  refine mEnds.brT (q' := (130, [some (.ref 1), some (.int 2), some (.int x2), some (.int x3), some (.int x4), some (.ref 128), some (.ref 44), some (.int 0), some (.int 0), some (.int 0), none], [], hC0, 0, 0)) rfl (mtk_ge f6) rfl ?_
  refine mEnds.steps 3 (q' := (136, [some (.ref 1), some (.int 2), some (.int x2), some (.int x3), some (.int x4), some (.ref 128), some (.ref 44), some (.int 0), some (.int 0), some (.int 0), none], [.ref 44, .ref 2], hC0, 0, 0)) rfl ?_
  refine mEnds.call (d := 19) (y' := 7) (as := [.ref 2, .ref 44]) (q' := (139, [some (.ref 1), some (.int 2), some (.int x2), some (.int x3), some (.int x4), some (.ref 128), some (.ref 44), some (.int 0), some (.int 0), some (.int 0), none], [], hC0, 0, 0)) (v := none) (hs' := hC0) (c' := 0) (s' := 0) rfl rfl ?_ ?_
  · exact mEnds.deep cpf 9
  show mEnds [] 20 102 (139, [some (.ref 1), some (.int 2), some (.int x2), some (.int x3), some (.int x4), some (.ref 128), some (.ref 44), some (.int 0), some (.int 0), some (.int 0), none], [], hC0, 0, 0) _
  refine mEnds.steps 4 (q' := (147, [some (.ref 1), some (.int 2), some (.int x2), some (.int x3), some (.int x4), some (.ref 128), some (.ref 44), some (.int 0), some (.int 0), some (.int 0), none], [.int 0], (hC0.set 1 (.inr (4, [.ref 2, .ref 10, .ref 11, .ref 12, .ref 13, .ref 14, .ref 18, .int 0]))), 0, 0)) rfl ?_
  exact mEnds.ret rfl
set_option maxRecDepth 100000 in
theorem c36_FFFFFFv2_ (x2 x3 x4 : Int32) (f2 : decide (x2 < 0) = false) (f3 : decide (2 < x2) = false) (f4 : decide (x4 < 0) = false) (f5 : decide (20 < x4) = false) : ∃ hs', mEnds [] 20 102 (mentry 102 [.ref 1, .int 2, .int x2, .int x3, .int x4] hC0) (some (.int 0), hs', 0, 0) := by
  cases f6 : decide (0 < x4) with
  | true =>
    cases f7 : decide (1 < x4) with
    | true =>
      exact c36_FFFFFFv2TT x2 x3 x4 f2 f3 f4 f5 f6 f7
    | false =>
      exact c36_FFFFFFv2TF x2 x3 x4 f2 f3 f4 f5 f6 f7
  | false =>
    exact c36_FFFFFFv2F x2 x3 x4 f2 f3 f4 f5 f6
set_option maxRecDepth 100000 in
theorem m36_FFFFFFv2TT (x2 x3 x4 : Int32) (f2 : decide (x2 < 0) = false) (f3 : decide (2 < x2) = false) (f4 : decide (x4 < 0) = false) (f5 : decide (20 < x4) = false) (f6 : decide (0 < (2 * x4)) = true) (f7 : decide (1 < (2 * x4)) = true) : ∃ hs', mEnds [] 20 181 (mentry 181 [.ref 1, .int 2, .int x2, .int x3, .int x4] hM0) (some (.int 0), hs', 0, 0) := by
  refine ⟨(hM0.set 1 (.inr (5, [.ref 2, .int 0, .ref 3, .int 0, .int 0, .int 0, .int 0, .ref 4, .int 0, .int 0, .int 0, .int 0, .int 0, .int 0, .int 0, .int 0, .ref 5, .ref 6, .ref 7, .int 0, .int 0, .ref 8, .int 0, .ref 9, .ref 10, .ref 11, .ref 12, .ref 13, .int 1]))), ?_⟩
  refine mEnds.steps 4 (q' := (6, [some (.ref 1), some (.int 2), some (.int x2), some (.int x3), some (.int x4), none, none, none, none, none], [.long 3, .long 0, .long 2], hM0, 0, 0)) rfl ?_
  refine mEnds.call (d := 19) (y' := 111) (as := [.long 2, .long 0, .long 3]) (q' := (9, [some (.ref 1), some (.int 2), some (.int x2), some (.int x3), some (.int x4), none, none, none, none, none], [], hM0, 0, 0)) (v := some (.int 1)) (hs' := hM0) (c' := 0) (s' := 0) rfl rfl ?_ ?_
  · refine mEnds.steps 10 (q' := (18, [some (.long 2), none, some (.long 0), none, some (.long 3), none], [.int 1], hM0, 0, 0)) rfl ?_
    exact mEnds.ret rfl
  show mEnds [] 20 181 (9, [some (.ref 1), some (.int 2), some (.int x2), some (.int x3), some (.int x4), none, none, none, none, none], [.int 1], hM0, 0, 0) _
  refine mEnds.steps 5 (q' := (18, [some (.ref 1), some (.int 2), some (.int x2), some (.int x3), some (.int x4), none, none, none, none, none], [.long 2, .long 0, .long x2.toInt64], hM0, 0, 0)) rfl ?_
  refine mEnds.call (d := 19) (y' := 111) (as := [.long x2.toInt64, .long 0, .long 2]) (q' := (21, [some (.ref 1), some (.int 2), some (.int x2), some (.int x3), some (.int x4), none, none, none, none, none], [], hM0, 0, 0)) (v := some (.int 1)) (hs' := hM0) (c' := 0) (s' := 0) rfl rfl ?_ ?_
  · refine mEnds.steps 3 (q' := (3, [some (.long x2.toInt64), none, some (.long 0), none, some (.long 2), none], [.int (lg_cmp x2.toInt64 0)], hM0, 0, 0)) rfl ?_
    refine mEnds.brF (q' := (6, [some (.long x2.toInt64), none, some (.long 0), none, some (.long 2), none], [], hM0, 0, 0)) rfl (lgc_lt (c := 0) (by decide) f2) rfl ?_
    refine mEnds.steps 3 (q' := (10, [some (.long x2.toInt64), none, some (.long 0), none, some (.long 2), none], [.int (lg_cmp x2.toInt64 2)], hM0, 0, 0)) rfl ?_
    refine mEnds.brF (q' := (13, [some (.long x2.toInt64), none, some (.long 0), none, some (.long 2), none], [], hM0, 0, 0)) rfl (lgc_gt (c := 2) (by decide) f3) rfl ?_
    refine mEnds.steps 2 (q' := (18, [some (.long x2.toInt64), none, some (.long 0), none, some (.long 2), none], [.int 1], hM0, 0, 0)) rfl ?_
    exact mEnds.ret rfl
  show mEnds [] 20 181 (21, [some (.ref 1), some (.int 2), some (.int x2), some (.int x3), some (.int x4), none, none, none, none, none], [.int 1], hM0, 0, 0) _
  refine mEnds.steps 5 (q' := (31, [some (.ref 1), some (.int 2), some (.int x2), some (.int x3), some (.int x4), none, none, none, none, none], [.long 20, .long 0, .long x4.toInt64], hM0, 0, 0)) rfl ?_
  refine mEnds.call (d := 19) (y' := 111) (as := [.long x4.toInt64, .long 0, .long 20]) (q' := (34, [some (.ref 1), some (.int 2), some (.int x2), some (.int x3), some (.int x4), none, none, none, none, none], [], hM0, 0, 0)) (v := some (.int 1)) (hs' := hM0) (c' := 0) (s' := 0) rfl rfl ?_ ?_
  · refine mEnds.steps 3 (q' := (3, [some (.long x4.toInt64), none, some (.long 0), none, some (.long 20), none], [.int (lg_cmp x4.toInt64 0)], hM0, 0, 0)) rfl ?_
    refine mEnds.brF (q' := (6, [some (.long x4.toInt64), none, some (.long 0), none, some (.long 20), none], [], hM0, 0, 0)) rfl (lgc_lt (c := 0) (by decide) f4) rfl ?_
    refine mEnds.steps 3 (q' := (10, [some (.long x4.toInt64), none, some (.long 0), none, some (.long 20), none], [.int (lg_cmp x4.toInt64 20)], hM0, 0, 0)) rfl ?_
    refine mEnds.brF (q' := (13, [some (.long x4.toInt64), none, some (.long 0), none, some (.long 20), none], [], hM0, 0, 0)) rfl (lgc_gt (c := 20) (by decide) f5) rfl ?_
    refine mEnds.steps 2 (q' := (18, [some (.long x4.toInt64), none, some (.long 0), none, some (.long 20), none], [.int 1], hM0, 0, 0)) rfl ?_
    exact mEnds.ret rfl
  show mEnds [] 20 181 (34, [some (.ref 1), some (.int 2), some (.int x2), some (.int x3), some (.int x4), none, none, none, none, none], [.int 1], hM0, 0, 0) _
  refine mEnds.steps 4 (q' := (44, [some (.ref 1), some (.int 2), some (.int x2), some (.int x3), some (.int x4), none, none, none, none, none], [.int 156, .int 0, .ref 1], hM0, 0, 0)) rfl ?_
  refine mEnds.call (d := 19) (y' := 152) (as := [.ref 1, .int 0, .int 156]) (q' := (47, [some (.ref 1), some (.int 2), some (.int x2), some (.int x3), some (.int x4), none, none, none, none, none], [], hM0, 0, 0)) (v := none) (hs' := hM0) (c' := 0) (s' := 0) rfl rfl ?_ ?_
  · exact mEnds.deep cp_0_156 9
  show mEnds [] 20 181 (47, [some (.ref 1), some (.int 2), some (.int x2), some (.int x3), some (.int x4), none, none, none, none, none], [], hM0, 0, 0) _
  refine mEnds.steps 10 (q' := (62, [some (.ref 1), some (.int 2), some (.int x2), some (.int x3), some (.int x4), some (.int 0), some (.int 0), some (.int 0), none, none], [.int (2 * x4), .int 0], hM0, 0, 0)) rfl ?_
  refine mEnds.brF (q' := (65, [some (.ref 1), some (.int 2), some (.int x2), some (.int x3), some (.int x4), some (.int 0), some (.int 0), some (.int 0), none, none], [], hM0, 0, 0)) rfl (mtk_ge f6) rfl ?_
  refine mEnds.steps 19 (q' := (62, [some (.ref 1), some (.int 2), some (.int x2), some (.int x3), some (.int x4), some (.int 1), some (.int 0), some (.int 1), none, none], [.int (2 * x4), .int 1], hM0, 0, 0)) rfl ?_
  refine mEnds.brF (q' := (65, [some (.ref 1), some (.int 2), some (.int x2), some (.int x3), some (.int x4), some (.int 1), some (.int 0), some (.int 1), none, none], [], hM0, 0, 0)) rfl (mtk_ge f7) rfl ?_
  refine mEnds.steps 6 (q' := (236, [some (.ref 1), some (.int 2), some (.int x2), some (.int x3), some (.int x4), some (.int 1), some (.int 0), some (.int 1), none, none], [.int 0], (hM0.set 1 (.inr (5, [.ref 2, .int 0, .ref 3, .int 0, .int 0, .int 0, .int 0, .ref 4, .int 0, .int 0, .int 0, .int 0, .int 0, .int 0, .int 0, .int 0, .ref 5, .ref 6, .ref 7, .int 0, .int 0, .ref 8, .int 0, .ref 9, .ref 10, .ref 11, .ref 12, .ref 13, .int 1]))), 0, 0)) rfl ?_
  exact mEnds.ret rfl
set_option maxRecDepth 100000 in
theorem m36_FFFFFFv2TF (x2 x3 x4 : Int32) (f2 : decide (x2 < 0) = false) (f3 : decide (2 < x2) = false) (f4 : decide (x4 < 0) = false) (f5 : decide (20 < x4) = false) (f6 : decide (0 < (2 * x4)) = true) (f7 : decide (1 < (2 * x4)) = false) : ∃ hs', mEnds [] 20 181 (mentry 181 [.ref 1, .int 2, .int x2, .int x3, .int x4] hM0) (some (.int 0), hs', 0, 0) := by
  refine ⟨(hM0.set 1 (.inr (5, [.ref 2, .int 0, .ref 3, .int 0, .int 0, .int 0, .int 0, .ref 4, .int 0, .int 0, .int 0, .int 0, .int 0, .int 0, .int 0, .int 0, .ref 5, .ref 6, .ref 7, .int 0, .int 0, .ref 8, .int 0, .ref 9, .ref 10, .ref 11, .ref 12, .ref 13, .int 1]))), ?_⟩
  refine mEnds.steps 4 (q' := (6, [some (.ref 1), some (.int 2), some (.int x2), some (.int x3), some (.int x4), none, none, none, none, none], [.long 3, .long 0, .long 2], hM0, 0, 0)) rfl ?_
  refine mEnds.call (d := 19) (y' := 111) (as := [.long 2, .long 0, .long 3]) (q' := (9, [some (.ref 1), some (.int 2), some (.int x2), some (.int x3), some (.int x4), none, none, none, none, none], [], hM0, 0, 0)) (v := some (.int 1)) (hs' := hM0) (c' := 0) (s' := 0) rfl rfl ?_ ?_
  · refine mEnds.steps 10 (q' := (18, [some (.long 2), none, some (.long 0), none, some (.long 3), none], [.int 1], hM0, 0, 0)) rfl ?_
    exact mEnds.ret rfl
  show mEnds [] 20 181 (9, [some (.ref 1), some (.int 2), some (.int x2), some (.int x3), some (.int x4), none, none, none, none, none], [.int 1], hM0, 0, 0) _
  refine mEnds.steps 5 (q' := (18, [some (.ref 1), some (.int 2), some (.int x2), some (.int x3), some (.int x4), none, none, none, none, none], [.long 2, .long 0, .long x2.toInt64], hM0, 0, 0)) rfl ?_
  refine mEnds.call (d := 19) (y' := 111) (as := [.long x2.toInt64, .long 0, .long 2]) (q' := (21, [some (.ref 1), some (.int 2), some (.int x2), some (.int x3), some (.int x4), none, none, none, none, none], [], hM0, 0, 0)) (v := some (.int 1)) (hs' := hM0) (c' := 0) (s' := 0) rfl rfl ?_ ?_
  · refine mEnds.steps 3 (q' := (3, [some (.long x2.toInt64), none, some (.long 0), none, some (.long 2), none], [.int (lg_cmp x2.toInt64 0)], hM0, 0, 0)) rfl ?_
    refine mEnds.brF (q' := (6, [some (.long x2.toInt64), none, some (.long 0), none, some (.long 2), none], [], hM0, 0, 0)) rfl (lgc_lt (c := 0) (by decide) f2) rfl ?_
    refine mEnds.steps 3 (q' := (10, [some (.long x2.toInt64), none, some (.long 0), none, some (.long 2), none], [.int (lg_cmp x2.toInt64 2)], hM0, 0, 0)) rfl ?_
    refine mEnds.brF (q' := (13, [some (.long x2.toInt64), none, some (.long 0), none, some (.long 2), none], [], hM0, 0, 0)) rfl (lgc_gt (c := 2) (by decide) f3) rfl ?_
    refine mEnds.steps 2 (q' := (18, [some (.long x2.toInt64), none, some (.long 0), none, some (.long 2), none], [.int 1], hM0, 0, 0)) rfl ?_
    exact mEnds.ret rfl
  show mEnds [] 20 181 (21, [some (.ref 1), some (.int 2), some (.int x2), some (.int x3), some (.int x4), none, none, none, none, none], [.int 1], hM0, 0, 0) _
  refine mEnds.steps 5 (q' := (31, [some (.ref 1), some (.int 2), some (.int x2), some (.int x3), some (.int x4), none, none, none, none, none], [.long 20, .long 0, .long x4.toInt64], hM0, 0, 0)) rfl ?_
  refine mEnds.call (d := 19) (y' := 111) (as := [.long x4.toInt64, .long 0, .long 20]) (q' := (34, [some (.ref 1), some (.int 2), some (.int x2), some (.int x3), some (.int x4), none, none, none, none, none], [], hM0, 0, 0)) (v := some (.int 1)) (hs' := hM0) (c' := 0) (s' := 0) rfl rfl ?_ ?_
  · refine mEnds.steps 3 (q' := (3, [some (.long x4.toInt64), none, some (.long 0), none, some (.long 20), none], [.int (lg_cmp x4.toInt64 0)], hM0, 0, 0)) rfl ?_
    refine mEnds.brF (q' := (6, [some (.long x4.toInt64), none, some (.long 0), none, some (.long 20), none], [], hM0, 0, 0)) rfl (lgc_lt (c := 0) (by decide) f4) rfl ?_
    refine mEnds.steps 3 (q' := (10, [some (.long x4.toInt64), none, some (.long 0), none, some (.long 20), none], [.int (lg_cmp x4.toInt64 20)], hM0, 0, 0)) rfl ?_
    refine mEnds.brF (q' := (13, [some (.long x4.toInt64), none, some (.long 0), none, some (.long 20), none], [], hM0, 0, 0)) rfl (lgc_gt (c := 20) (by decide) f5) rfl ?_
    refine mEnds.steps 2 (q' := (18, [some (.long x4.toInt64), none, some (.long 0), none, some (.long 20), none], [.int 1], hM0, 0, 0)) rfl ?_
    exact mEnds.ret rfl
  show mEnds [] 20 181 (34, [some (.ref 1), some (.int 2), some (.int x2), some (.int x3), some (.int x4), none, none, none, none, none], [.int 1], hM0, 0, 0) _
  refine mEnds.steps 4 (q' := (44, [some (.ref 1), some (.int 2), some (.int x2), some (.int x3), some (.int x4), none, none, none, none, none], [.int 156, .int 0, .ref 1], hM0, 0, 0)) rfl ?_
  refine mEnds.call (d := 19) (y' := 152) (as := [.ref 1, .int 0, .int 156]) (q' := (47, [some (.ref 1), some (.int 2), some (.int x2), some (.int x3), some (.int x4), none, none, none, none, none], [], hM0, 0, 0)) (v := none) (hs' := hM0) (c' := 0) (s' := 0) rfl rfl ?_ ?_
  · exact mEnds.deep cp_0_156 9
  show mEnds [] 20 181 (47, [some (.ref 1), some (.int 2), some (.int x2), some (.int x3), some (.int x4), none, none, none, none, none], [], hM0, 0, 0) _
  refine mEnds.steps 10 (q' := (62, [some (.ref 1), some (.int 2), some (.int x2), some (.int x3), some (.int x4), some (.int 0), some (.int 0), some (.int 0), none, none], [.int (2 * x4), .int 0], hM0, 0, 0)) rfl ?_
  refine mEnds.brF (q' := (65, [some (.ref 1), some (.int 2), some (.int x2), some (.int x3), some (.int x4), some (.int 0), some (.int 0), some (.int 0), none, none], [], hM0, 0, 0)) rfl (mtk_ge f6) rfl ?_
  refine mEnds.steps 19 (q' := (62, [some (.ref 1), some (.int 2), some (.int x2), some (.int x3), some (.int x4), some (.int 1), some (.int 0), some (.int 1), none, none], [.int (2 * x4), .int 1], hM0, 0, 0)) rfl ?_
  refine mEnds.brT (q' := (228, [some (.ref 1), some (.int 2), some (.int x2), some (.int x3), some (.int x4), some (.int 1), some (.int 0), some (.int 1), none, none], [], hM0, 0, 0)) rfl (mtk_ge f7) rfl ?_
  refine mEnds.steps 4 (q' := (236, [some (.ref 1), some (.int 2), some (.int x2), some (.int x3), some (.int x4), some (.int 1), some (.int 0), some (.int 1), none, none], [.int 0], (hM0.set 1 (.inr (5, [.ref 2, .int 0, .ref 3, .int 0, .int 0, .int 0, .int 0, .ref 4, .int 0, .int 0, .int 0, .int 0, .int 0, .int 0, .int 0, .int 0, .ref 5, .ref 6, .ref 7, .int 0, .int 0, .ref 8, .int 0, .ref 9, .ref 10, .ref 11, .ref 12, .ref 13, .int 1]))), 0, 0)) rfl ?_
  exact mEnds.ret rfl
set_option maxRecDepth 100000 in
theorem m36_FFFFFFv2F (x2 x3 x4 : Int32) (f2 : decide (x2 < 0) = false) (f3 : decide (2 < x2) = false) (f4 : decide (x4 < 0) = false) (f5 : decide (20 < x4) = false) (f6 : decide (0 < (2 * x4)) = false) : ∃ hs', mEnds [] 20 181 (mentry 181 [.ref 1, .int 2, .int x2, .int x3, .int x4] hM0) (some (.int 0), hs', 0, 0) := by
  refine ⟨(hM0.set 1 (.inr (5, [.ref 2, .int 0, .ref 3, .int 0, .int 0, .int 0, .int 0, .ref 4, .int 0, .int 0, .int 0, .int 0, .int 0, .int 0, .int 0, .int 0, .ref 5, .ref 6, .ref 7, .int 0, .int 0, .ref 8, .int 0, .ref 9, .ref 10, .ref 11, .ref 12, .ref 13, .int 0]))), ?_⟩
  refine mEnds.steps 4 (q' := (6, [some (.ref 1), some (.int 2), some (.int x2), some (.int x3), some (.int x4), none, none, none, none, none], [.long 3, .long 0, .long 2], hM0, 0, 0)) rfl ?_
  refine mEnds.call (d := 19) (y' := 111) (as := [.long 2, .long 0, .long 3]) (q' := (9, [some (.ref 1), some (.int 2), some (.int x2), some (.int x3), some (.int x4), none, none, none, none, none], [], hM0, 0, 0)) (v := some (.int 1)) (hs' := hM0) (c' := 0) (s' := 0) rfl rfl ?_ ?_
  · refine mEnds.steps 10 (q' := (18, [some (.long 2), none, some (.long 0), none, some (.long 3), none], [.int 1], hM0, 0, 0)) rfl ?_
    exact mEnds.ret rfl
  show mEnds [] 20 181 (9, [some (.ref 1), some (.int 2), some (.int x2), some (.int x3), some (.int x4), none, none, none, none, none], [.int 1], hM0, 0, 0) _
  refine mEnds.steps 5 (q' := (18, [some (.ref 1), some (.int 2), some (.int x2), some (.int x3), some (.int x4), none, none, none, none, none], [.long 2, .long 0, .long x2.toInt64], hM0, 0, 0)) rfl ?_
  refine mEnds.call (d := 19) (y' := 111) (as := [.long x2.toInt64, .long 0, .long 2]) (q' := (21, [some (.ref 1), some (.int 2), some (.int x2), some (.int x3), some (.int x4), none, none, none, none, none], [], hM0, 0, 0)) (v := some (.int 1)) (hs' := hM0) (c' := 0) (s' := 0) rfl rfl ?_ ?_
  · refine mEnds.steps 3 (q' := (3, [some (.long x2.toInt64), none, some (.long 0), none, some (.long 2), none], [.int (lg_cmp x2.toInt64 0)], hM0, 0, 0)) rfl ?_
    refine mEnds.brF (q' := (6, [some (.long x2.toInt64), none, some (.long 0), none, some (.long 2), none], [], hM0, 0, 0)) rfl (lgc_lt (c := 0) (by decide) f2) rfl ?_
    refine mEnds.steps 3 (q' := (10, [some (.long x2.toInt64), none, some (.long 0), none, some (.long 2), none], [.int (lg_cmp x2.toInt64 2)], hM0, 0, 0)) rfl ?_
    refine mEnds.brF (q' := (13, [some (.long x2.toInt64), none, some (.long 0), none, some (.long 2), none], [], hM0, 0, 0)) rfl (lgc_gt (c := 2) (by decide) f3) rfl ?_
    refine mEnds.steps 2 (q' := (18, [some (.long x2.toInt64), none, some (.long 0), none, some (.long 2), none], [.int 1], hM0, 0, 0)) rfl ?_
    exact mEnds.ret rfl
  show mEnds [] 20 181 (21, [some (.ref 1), some (.int 2), some (.int x2), some (.int x3), some (.int x4), none, none, none, none, none], [.int 1], hM0, 0, 0) _
  refine mEnds.steps 5 (q' := (31, [some (.ref 1), some (.int 2), some (.int x2), some (.int x3), some (.int x4), none, none, none, none, none], [.long 20, .long 0, .long x4.toInt64], hM0, 0, 0)) rfl ?_
  refine mEnds.call (d := 19) (y' := 111) (as := [.long x4.toInt64, .long 0, .long 20]) (q' := (34, [some (.ref 1), some (.int 2), some (.int x2), some (.int x3), some (.int x4), none, none, none, none, none], [], hM0, 0, 0)) (v := some (.int 1)) (hs' := hM0) (c' := 0) (s' := 0) rfl rfl ?_ ?_
  · refine mEnds.steps 3 (q' := (3, [some (.long x4.toInt64), none, some (.long 0), none, some (.long 20), none], [.int (lg_cmp x4.toInt64 0)], hM0, 0, 0)) rfl ?_
    refine mEnds.brF (q' := (6, [some (.long x4.toInt64), none, some (.long 0), none, some (.long 20), none], [], hM0, 0, 0)) rfl (lgc_lt (c := 0) (by decide) f4) rfl ?_
    refine mEnds.steps 3 (q' := (10, [some (.long x4.toInt64), none, some (.long 0), none, some (.long 20), none], [.int (lg_cmp x4.toInt64 20)], hM0, 0, 0)) rfl ?_
    refine mEnds.brF (q' := (13, [some (.long x4.toInt64), none, some (.long 0), none, some (.long 20), none], [], hM0, 0, 0)) rfl (lgc_gt (c := 20) (by decide) f5) rfl ?_
    refine mEnds.steps 2 (q' := (18, [some (.long x4.toInt64), none, some (.long 0), none, some (.long 20), none], [.int 1], hM0, 0, 0)) rfl ?_
    exact mEnds.ret rfl
  show mEnds [] 20 181 (34, [some (.ref 1), some (.int 2), some (.int x2), some (.int x3), some (.int x4), none, none, none, none, none], [.int 1], hM0, 0, 0) _
  refine mEnds.steps 4 (q' := (44, [some (.ref 1), some (.int 2), some (.int x2), some (.int x3), some (.int x4), none, none, none, none, none], [.int 156, .int 0, .ref 1], hM0, 0, 0)) rfl ?_
  refine mEnds.call (d := 19) (y' := 152) (as := [.ref 1, .int 0, .int 156]) (q' := (47, [some (.ref 1), some (.int 2), some (.int x2), some (.int x3), some (.int x4), none, none, none, none, none], [], hM0, 0, 0)) (v := none) (hs' := hM0) (c' := 0) (s' := 0) rfl rfl ?_ ?_
  · exact mEnds.deep cp_0_156 9
  show mEnds [] 20 181 (47, [some (.ref 1), some (.int 2), some (.int x2), some (.int x3), some (.int x4), none, none, none, none, none], [], hM0, 0, 0) _
  refine mEnds.steps 10 (q' := (62, [some (.ref 1), some (.int 2), some (.int x2), some (.int x3), some (.int x4), some (.int 0), some (.int 0), some (.int 0), none, none], [.int (2 * x4), .int 0], hM0, 0, 0)) rfl ?_
  refine mEnds.brT (q' := (228, [some (.ref 1), some (.int 2), some (.int x2), some (.int x3), some (.int x4), some (.int 0), some (.int 0), some (.int 0), none, none], [], hM0, 0, 0)) rfl (mtk_ge f6) rfl ?_
  refine mEnds.steps 4 (q' := (236, [some (.ref 1), some (.int 2), some (.int x2), some (.int x3), some (.int x4), some (.int 0), some (.int 0), some (.int 0), none, none], [.int 0], (hM0.set 1 (.inr (5, [.ref 2, .int 0, .ref 3, .int 0, .int 0, .int 0, .int 0, .ref 4, .int 0, .int 0, .int 0, .int 0, .int 0, .int 0, .int 0, .int 0, .ref 5, .ref 6, .ref 7, .int 0, .int 0, .ref 8, .int 0, .ref 9, .ref 10, .ref 11, .ref 12, .ref 13, .int 0]))), 0, 0)) rfl ?_
  exact mEnds.ret rfl
set_option maxRecDepth 100000 in
theorem m36_FFFFFFv2_ (x2 x3 x4 : Int32) (f2 : decide (x2 < 0) = false) (f3 : decide (2 < x2) = false) (f4 : decide (x4 < 0) = false) (f5 : decide (20 < x4) = false) : ∃ hs', mEnds [] 20 181 (mentry 181 [.ref 1, .int 2, .int x2, .int x3, .int x4] hM0) (some (.int 0), hs', 0, 0) := by
  cases f6 : decide (0 < (2 * x4)) with
  | true =>
    cases f7 : decide (1 < (2 * x4)) with
    | true =>
      exact m36_FFFFFFv2TT x2 x3 x4 f2 f3 f4 f5 f6 f7
    | false =>
      exact m36_FFFFFFv2TF x2 x3 x4 f2 f3 f4 f5 f6 f7
  | false =>
    exact m36_FFFFFFv2F x2 x3 x4 f2 f3 f4 f5 f6
set_option maxRecDepth 100000 in
theorem c36_FFFFFFv3TT (x2 x3 x4 : Int32) (f2 : decide (x2 < 0) = false) (f3 : decide (2 < x2) = false) (f4 : decide (x4 < 0) = false) (f5 : decide (20 < x4) = false) (f6 : decide (0 < x4) = true) (f7 : decide (1 < x4) = true) : ∃ hs', mEnds [] 20 102 (mentry 102 [.ref 1, .int 3, .int x2, .int x3, .int x4] hC0) (some (.int 0), hs', 0, 0) := by
  refine ⟨(hC0.set 1 (.inr (4, [.ref 2, .ref 10, .ref 11, .ref 12, .ref 13, .ref 14, .ref 18, .int 1]))), ?_⟩
  refine mEnds.steps 3 (q' := (3, [some (.ref 1), some (.int 3), some (.int x2), some (.int x3), some (.int x4), none, none, none, none, none, none], [.int 3, .int 0, .int 3], hC0, 0, 0)) rfl ?_
  refine mEnds.call (d := 19) (y' := 105) (as := [.int 3, .int 0, .int 3]) (q' := (6, [some (.ref 1), some (.int 3), some (.int x2), some (.int x3), some (.int x4), none, none, none, none, none, none], [], hC0, 0, 0)) (v := some (.int 1)) (hs' := hC0) (c' := 0) (s' := 0) rfl rfl ?_ ?_
  · refine mEnds.steps 8 (q' := (15, [some (.int 3), some (.int 0), some (.int 3)], [.int 1], hC0, 0, 0)) rfl ?_
    exact mEnds.ret rfl
  show mEnds [] 20 102 (6, [some (.ref 1), some (.int 3), some (.int x2), some (.int x3), some (.int x4), none, none, none, none, none, none], [.int 1], hC0, 0, 0) _
  refine mEnds.steps 4 (q' := (12, [some (.ref 1), some (.int 3), some (.int x2), some (.int x3), some (.int x4), none, none, none, none, none, none], [.int 2, .int 0, .int x2], hC0, 0, 0)) rfl ?_
  refine mEnds.call (d := 19) (y' := 105) (as := [.int x2, .int 0, .int 2]) (q' := (15, [some (.ref 1), some (.int 3), some (.int x2), some (.int x3), some (.int x4), none, none, none, none, none, none], [], hC0, 0, 0)) (v := some (.int 1)) (hs' := hC0) (c' := 0) (s' := 0) rfl rfl ?_ ?_
  · refine mEnds.steps 2 (q' := (2, [some (.int x2), some (.int 0), some (.int 2)], [.int 0, .int x2], hC0, 0, 0)) rfl ?_
    refine mEnds.brF (q' := (5, [some (.int x2), some (.int 0), some (.int 2)], [], hC0, 0, 0)) rfl f2 rfl ?_
    refine mEnds.steps 2 (q' := (7, [some (.int x2), some (.int 0), some (.int 2)], [.int 2, .int x2], hC0, 0, 0)) rfl ?_
    refine mEnds.brF (q' := (10, [some (.int x2), some (.int 0), some (.int 2)], [], hC0, 0, 0)) rfl f3 rfl ?_
    refine mEnds.steps 2 (q' := (15, [some (.int x2), some (.int 0), some (.int 2)], [.int 1], hC0, 0, 0)) rfl ?_
    exact mEnds.ret rfl
  show mEnds [] 20 102 (15, [some (.ref 1), some (.int 3), some (.int x2), some (.int x3), some (.int x4), none, none, none, none, none, none], [.int 1], hC0, 0, 0) _
  refine mEnds.steps 4 (q' := (23, [some (.ref 1), some (.int 3), some (.int x2), some (.int x3), some (.int x4), none, none, none, none, none, none], [.int 20, .int 0, .int x4], hC0, 0, 0)) rfl ?_
  refine mEnds.call (d := 19) (y' := 105) (as := [.int x4, .int 0, .int 20]) (q' := (26, [some (.ref 1), some (.int 3), some (.int x2), some (.int x3), some (.int x4), none, none, none, none, none, none], [], hC0, 0, 0)) (v := some (.int 1)) (hs' := hC0) (c' := 0) (s' := 0) rfl rfl ?_ ?_
  · refine mEnds.steps 2 (q' := (2, [some (.int x4), some (.int 0), some (.int 20)], [.int 0, .int x4], hC0, 0, 0)) rfl ?_
    refine mEnds.brF (q' := (5, [some (.int x4), some (.int 0), some (.int 20)], [], hC0, 0, 0)) rfl f4 rfl ?_
    refine mEnds.steps 2 (q' := (7, [some (.int x4), some (.int 0), some (.int 20)], [.int 20, .int x4], hC0, 0, 0)) rfl ?_
    refine mEnds.brF (q' := (10, [some (.int x4), some (.int 0), some (.int 20)], [], hC0, 0, 0)) rfl f5 rfl ?_
    refine mEnds.steps 2 (q' := (15, [some (.int x4), some (.int 0), some (.int 20)], [.int 1], hC0, 0, 0)) rfl ?_
    exact mEnds.ret rfl
  show mEnds [] 20 102 (26, [some (.ref 1), some (.int 3), some (.int x2), some (.int x3), some (.int x4), none, none, none, none, none, none], [.int 1], hC0, 0, 0) _
  refine mEnds.steps 7 (q' := (40, [some (.ref 1), some (.int 3), some (.int x2), some (.int x3), some (.int x4), some (.ref 130), none, none, none, none, none], [.ref 1], hC0, 0, 0)) rfl ?_
  refine mEnds.call (d := 19) (y' := 109) (as := [.ref 1]) (q' := (43, [some (.ref 1), some (.int 3), some (.int x2), some (.int x3), some (.int x4), some (.ref 130), none, none, none, none, none], [], hC0, 0, 0)) (v := some (.ref 44)) (hs' := hC0) (c' := 0) (s' := 0) rfl rfl ?_ ?_
  · exact mEnds.deep cpn 9
  show mEnds [] 20 102 (43, [some (.ref 1), some (.int 3), some (.int x2), some (.int x3), some (.int x4), some (.ref 130), none, none, none, none, none], [.ref 44], hC0, 0, 0) _
  refine mEnds.steps 9 (q' := (58, [some (.ref 1), some (.int 3), some (.int x2), some (.int x3), some (.int x4), some (.ref 130), some (.ref 44), some (.int 0), some (.int 0), some (.int 0), none], [.int x4, .int 0], hC0, 0, 0)) rfl ?_
  refine mEnds.brF (q' := (61, [some (.ref 1), some (.int 3), some (.int x2), some (.int x3), some (.int x4), some (.ref 130), some (.ref 44), some (.int 0), some (.int 0), some (.int 0), none], [], hC0, 0, 0)) rfl (mtk_ge f6) rfl ?_
  refine mEnds.steps 11 (q' := (79, [some (.ref 1), some (.int 3), some (.int x2), some (.int x3), some (.int x4), some (.ref 130), some (.ref 44), some (.int 0), some (.int 0), some (.int 0), some (.int (x3 + 0))], [.int (x3 + 0), .int x2, .ref 130], hC0, 0, 0)) rfl ?_
  refine mEnds.call (d := 19) (y' := 34) (as := [.ref 130, .int x2, .int (x3 + 0)]) (q' := (82, [some (.ref 1), some (.int 3), some (.int x2), some (.int x3), some (.int x4), some (.ref 130), some (.ref 44), some (.int 0), some (.int 0), some (.int 0), some (.int (x3 + 0))], [], hC0, 0, 0)) (v := some (.int 1)) (hs' := hC0) (c' := 0) (s' := 0) rfl rfl ?_ ?_
  · refine mEnds.steps 3 (q' := (3, [some (.ref 130), some (.int x2), some (.int (x3 + 0)), none], [.int (x3 + 0), .int x2, .ref 130], hC0, 0, 0)) rfl ?_
    refine mEnds.call (d := 18) (y' := 33) (as := [.ref 130, .int x2, .int (x3 + 0)]) (q' := (6, [some (.ref 130), some (.int x2), some (.int (x3 + 0)), none], [], hC0, 0, 0)) (v := some (.int 1)) (hs' := hC0) (c' := 0) (s' := 0) rfl rfl ?_ ?_
    · refine mEnds.steps 1 (q' := (1, [some (.ref 130), some (.int x2), some (.int (x3 + 0))], [.ref 130], hC0, 0, 0)) rfl ?_
      refine mEnds.call (d := 17) (y' := 30) (as := [.ref 130]) (q' := (4, [some (.ref 130), some (.int x2), some (.int (x3 + 0))], [], hC0, 0, 0)) (v := some (.int 0)) (hs' := hC0) (c' := 0) (s' := 0) rfl rfl ?_ ?_
      · refine mEnds.steps 5 (q' := (13, [some (.ref 130)], [.int 0], hC0, 0, 0)) rfl ?_
        exact mEnds.ret rfl
      show mEnds [] 18 33 (4, [some (.ref 130), some (.int x2), some (.int (x3 + 0))], [.int 0], hC0, 0, 0) _
      refine mEnds.steps 2 (q' := (8, [some (.ref 130), some (.int x2), some (.int (x3 + 0))], [.int 1], hC0, 0, 0)) rfl ?_
      exact mEnds.ret rfl
    show mEnds [] 19 34 (6, [some (.ref 130), some (.int x2), some (.int (x3 + 0)), none], [.int 1], hC0, 0, 0) _
    refine mEnds.steps 5 (q' := (23, [some (.ref 130), some (.int x2), some (.int (x3 + 0)), some (.int 1)], [.int 1], hC0, 0, 0)) rfl ?_
    exact mEnds.ret rfl
  show mEnds [] 20 102 (82, [some (.ref 1), some (.int 3), some (.int x2), some (.int x3), some (.int x4), some (.ref 130), some (.ref 44), some (.int 0), some (.int 0), some (.int 0), some (.int (x3 + 0))], [.int 1], hC0, 0, 0) _
  refine mEnds.steps 7 (q' := (58, [some (.ref 1), some (.int 3), some (.int x2), some (.int x3), some (.int x4), some (.ref 130), some (.ref 44), some (.int 1), some (.int 0), some (.int 1), some (.int (x3 + 0))], [.int x4, .int 1], hC0, 0, 0)) rfl ?_
  refine mEnds.brF (q' := (61, [some (.ref 1), some (.int 3), some (.int x2), some (.int x3), some (.int x4), some (.ref 130), some (.ref 44), some (.int 1), some (.int 0), some (.int 1), some (.int (x3 + 0))], [], hC0, 0, 0)) rfl (mtk_ge f7) rfl ?_
  refine mEnds.steps 5 (q' := (136, [some (.ref 1), some (.int 3), some (.int x2), some (.int x3), some (.int x4), some (.ref 130), some (.ref 44), some (.int 1), some (.int 0), some (.int 1), some (.int (x3 + 0))], [.ref 44, .ref 2], hC0, 0, 0)) rfl ?_
  refine mEnds.call (d := 19) (y' := 7) (as := [.ref 2, .ref 44]) (q' := (139, [some (.ref 1), some (.int 3), some (.int x2), some (.int x3), some (.int x4), some (.ref 130), some (.ref 44), some (.int 1), some (.int 0), some (.int 1), some (.int (x3 + 0))], [], hC0, 0, 0)) (v := none) (hs' := hC0) (c' := 0) (s' := 0) rfl rfl ?_ ?_
  · exact mEnds.deep cpf 9
  show mEnds [] 20 102 (139, [some (.ref 1), some (.int 3), some (.int x2), some (.int x3), some (.int x4), some (.ref 130), some (.ref 44), some (.int 1), some (.int 0), some (.int 1), some (.int (x3 + 0))], [], hC0, 0, 0) _
  refine mEnds.steps 4 (q' := (147, [some (.ref 1), some (.int 3), some (.int x2), some (.int x3), some (.int x4), some (.ref 130), some (.ref 44), some (.int 1), some (.int 0), some (.int 1), some (.int (x3 + 0))], [.int 0], (hC0.set 1 (.inr (4, [.ref 2, .ref 10, .ref 11, .ref 12, .ref 13, .ref 14, .ref 18, .int 1]))), 0, 0)) rfl ?_
  exact mEnds.ret rfl
set_option maxRecDepth 100000 in
theorem c36_FFFFFFv3TF (x2 x3 x4 : Int32) (f2 : decide (x2 < 0) = false) (f3 : decide (2 < x2) = false) (f4 : decide (x4 < 0) = false) (f5 : decide (20 < x4) = false) (f6 : decide (0 < x4) = true) (f7 : decide (1 < x4) = false) : ∃ hs', mEnds [] 20 102 (mentry 102 [.ref 1, .int 3, .int x2, .int x3, .int x4] hC0) (some (.int 0), hs', 0, 0) := by
  refine ⟨(hC0.set 1 (.inr (4, [.ref 2, .ref 10, .ref 11, .ref 12, .ref 13, .ref 14, .ref 18, .int 1]))), ?_⟩
  refine mEnds.steps 3 (q' := (3, [some (.ref 1), some (.int 3), some (.int x2), some (.int x3), some (.int x4), none, none, none, none, none, none], [.int 3, .int 0, .int 3], hC0, 0, 0)) rfl ?_
  refine mEnds.call (d := 19) (y' := 105) (as := [.int 3, .int 0, .int 3]) (q' := (6, [some (.ref 1), some (.int 3), some (.int x2), some (.int x3), some (.int x4), none, none, none, none, none, none], [], hC0, 0, 0)) (v := some (.int 1)) (hs' := hC0) (c' := 0) (s' := 0) rfl rfl ?_ ?_
  · refine mEnds.steps 8 (q' := (15, [some (.int 3), some (.int 0), some (.int 3)], [.int 1], hC0, 0, 0)) rfl ?_
    exact mEnds.ret rfl
  show mEnds [] 20 102 (6, [some (.ref 1), some (.int 3), some (.int x2), some (.int x3), some (.int x4), none, none, none, none, none, none], [.int 1], hC0, 0, 0) _
  refine mEnds.steps 4 (q' := (12, [some (.ref 1), some (.int 3), some (.int x2), some (.int x3), some (.int x4), none, none, none, none, none, none], [.int 2, .int 0, .int x2], hC0, 0, 0)) rfl ?_
  refine mEnds.call (d := 19) (y' := 105) (as := [.int x2, .int 0, .int 2]) (q' := (15, [some (.ref 1), some (.int 3), some (.int x2), some (.int x3), some (.int x4), none, none, none, none, none, none], [], hC0, 0, 0)) (v := some (.int 1)) (hs' := hC0) (c' := 0) (s' := 0) rfl rfl ?_ ?_
  · refine mEnds.steps 2 (q' := (2, [some (.int x2), some (.int 0), some (.int 2)], [.int 0, .int x2], hC0, 0, 0)) rfl ?_
    refine mEnds.brF (q' := (5, [some (.int x2), some (.int 0), some (.int 2)], [], hC0, 0, 0)) rfl f2 rfl ?_
    refine mEnds.steps 2 (q' := (7, [some (.int x2), some (.int 0), some (.int 2)], [.int 2, .int x2], hC0, 0, 0)) rfl ?_
    refine mEnds.brF (q' := (10, [some (.int x2), some (.int 0), some (.int 2)], [], hC0, 0, 0)) rfl f3 rfl ?_
    refine mEnds.steps 2 (q' := (15, [some (.int x2), some (.int 0), some (.int 2)], [.int 1], hC0, 0, 0)) rfl ?_
    exact mEnds.ret rfl
  show mEnds [] 20 102 (15, [some (.ref 1), some (.int 3), some (.int x2), some (.int x3), some (.int x4), none, none, none, none, none, none], [.int 1], hC0, 0, 0) _
  refine mEnds.steps 4 (q' := (23, [some (.ref 1), some (.int 3), some (.int x2), some (.int x3), some (.int x4), none, none, none, none, none, none], [.int 20, .int 0, .int x4], hC0, 0, 0)) rfl ?_
  refine mEnds.call (d := 19) (y' := 105) (as := [.int x4, .int 0, .int 20]) (q' := (26, [some (.ref 1), some (.int 3), some (.int x2), some (.int x3), some (.int x4), none, none, none, none, none, none], [], hC0, 0, 0)) (v := some (.int 1)) (hs' := hC0) (c' := 0) (s' := 0) rfl rfl ?_ ?_
  · refine mEnds.steps 2 (q' := (2, [some (.int x4), some (.int 0), some (.int 20)], [.int 0, .int x4], hC0, 0, 0)) rfl ?_
    refine mEnds.brF (q' := (5, [some (.int x4), some (.int 0), some (.int 20)], [], hC0, 0, 0)) rfl f4 rfl ?_
    refine mEnds.steps 2 (q' := (7, [some (.int x4), some (.int 0), some (.int 20)], [.int 20, .int x4], hC0, 0, 0)) rfl ?_
    refine mEnds.brF (q' := (10, [some (.int x4), some (.int 0), some (.int 20)], [], hC0, 0, 0)) rfl f5 rfl ?_
    refine mEnds.steps 2 (q' := (15, [some (.int x4), some (.int 0), some (.int 20)], [.int 1], hC0, 0, 0)) rfl ?_
    exact mEnds.ret rfl
  show mEnds [] 20 102 (26, [some (.ref 1), some (.int 3), some (.int x2), some (.int x3), some (.int x4), none, none, none, none, none, none], [.int 1], hC0, 0, 0) _
  refine mEnds.steps 7 (q' := (40, [some (.ref 1), some (.int 3), some (.int x2), some (.int x3), some (.int x4), some (.ref 130), none, none, none, none, none], [.ref 1], hC0, 0, 0)) rfl ?_
  refine mEnds.call (d := 19) (y' := 109) (as := [.ref 1]) (q' := (43, [some (.ref 1), some (.int 3), some (.int x2), some (.int x3), some (.int x4), some (.ref 130), none, none, none, none, none], [], hC0, 0, 0)) (v := some (.ref 44)) (hs' := hC0) (c' := 0) (s' := 0) rfl rfl ?_ ?_
  · exact mEnds.deep cpn 9
  show mEnds [] 20 102 (43, [some (.ref 1), some (.int 3), some (.int x2), some (.int x3), some (.int x4), some (.ref 130), none, none, none, none, none], [.ref 44], hC0, 0, 0) _
  refine mEnds.steps 9 (q' := (58, [some (.ref 1), some (.int 3), some (.int x2), some (.int x3), some (.int x4), some (.ref 130), some (.ref 44), some (.int 0), some (.int 0), some (.int 0), none], [.int x4, .int 0], hC0, 0, 0)) rfl ?_
  refine mEnds.brF (q' := (61, [some (.ref 1), some (.int 3), some (.int x2), some (.int x3), some (.int x4), some (.ref 130), some (.ref 44), some (.int 0), some (.int 0), some (.int 0), none], [], hC0, 0, 0)) rfl (mtk_ge f6) rfl ?_
  refine mEnds.steps 11 (q' := (79, [some (.ref 1), some (.int 3), some (.int x2), some (.int x3), some (.int x4), some (.ref 130), some (.ref 44), some (.int 0), some (.int 0), some (.int 0), some (.int (x3 + 0))], [.int (x3 + 0), .int x2, .ref 130], hC0, 0, 0)) rfl ?_
  refine mEnds.call (d := 19) (y' := 34) (as := [.ref 130, .int x2, .int (x3 + 0)]) (q' := (82, [some (.ref 1), some (.int 3), some (.int x2), some (.int x3), some (.int x4), some (.ref 130), some (.ref 44), some (.int 0), some (.int 0), some (.int 0), some (.int (x3 + 0))], [], hC0, 0, 0)) (v := some (.int 1)) (hs' := hC0) (c' := 0) (s' := 0) rfl rfl ?_ ?_
  · refine mEnds.steps 3 (q' := (3, [some (.ref 130), some (.int x2), some (.int (x3 + 0)), none], [.int (x3 + 0), .int x2, .ref 130], hC0, 0, 0)) rfl ?_
    refine mEnds.call (d := 18) (y' := 33) (as := [.ref 130, .int x2, .int (x3 + 0)]) (q' := (6, [some (.ref 130), some (.int x2), some (.int (x3 + 0)), none], [], hC0, 0, 0)) (v := some (.int 1)) (hs' := hC0) (c' := 0) (s' := 0) rfl rfl ?_ ?_
    · refine mEnds.steps 1 (q' := (1, [some (.ref 130), some (.int x2), some (.int (x3 + 0))], [.ref 130], hC0, 0, 0)) rfl ?_
      refine mEnds.call (d := 17) (y' := 30) (as := [.ref 130]) (q' := (4, [some (.ref 130), some (.int x2), some (.int (x3 + 0))], [], hC0, 0, 0)) (v := some (.int 0)) (hs' := hC0) (c' := 0) (s' := 0) rfl rfl ?_ ?_
      · refine mEnds.steps 5 (q' := (13, [some (.ref 130)], [.int 0], hC0, 0, 0)) rfl ?_
        exact mEnds.ret rfl
      show mEnds [] 18 33 (4, [some (.ref 130), some (.int x2), some (.int (x3 + 0))], [.int 0], hC0, 0, 0) _
      refine mEnds.steps 2 (q' := (8, [some (.ref 130), some (.int x2), some (.int (x3 + 0))], [.int 1], hC0, 0, 0)) rfl ?_
      exact mEnds.ret rfl
    show mEnds [] 19 34 (6, [some (.ref 130), some (.int x2), some (.int (x3 + 0)), none], [.int 1], hC0, 0, 0) _
    refine mEnds.steps 5 (q' := (23, [some (.ref 130), some (.int x2), some (.int (x3 + 0)), some (.int 1)], [.int 1], hC0, 0, 0)) rfl ?_
    exact mEnds.ret rfl
  show mEnds [] 20 102 (82, [some (.ref 1), some (.int 3), some (.int x2), some (.int x3), some (.int x4), some (.ref 130), some (.ref 44), some (.int 0), some (.int 0), some (.int 0), some (.int (x3 + 0))], [.int 1], hC0, 0, 0) _
  refine mEnds.steps 7 (q' := (58, [some (.ref 1), some (.int 3), some (.int x2), some (.int x3), some (.int x4), some (.ref 130), some (.ref 44), some (.int 1), some (.int 0), some (.int 1), some (.int (x3 + 0))], [.int x4, .int 1], hC0, 0, 0)) rfl ?_
  refine mEnds.brT (q' := (130, [some (.ref 1), some (.int 3), some (.int x2), some (.int x3), some (.int x4), some (.ref 130), some (.ref 44), some (.int 1), some (.int 0), some (.int 1), some (.int (x3 + 0))], [], hC0, 0, 0)) rfl (mtk_ge f7) rfl ?_
  refine mEnds.steps 3 (q' := (136, [some (.ref 1), some (.int 3), some (.int x2), some (.int x3), some (.int x4), some (.ref 130), some (.ref 44), some (.int 1), some (.int 0), some (.int 1), some (.int (x3 + 0))], [.ref 44, .ref 2], hC0, 0, 0)) rfl ?_
  refine mEnds.call (d := 19) (y' := 7) (as := [.ref 2, .ref 44]) (q' := (139, [some (.ref 1), some (.int 3), some (.int x2), some (.int x3), some (.int x4), some (.ref 130), some (.ref 44), some (.int 1), some (.int 0), some (.int 1), some (.int (x3 + 0))], [], hC0, 0, 0)) (v := none) (hs' := hC0) (c' := 0) (s' := 0) rfl rfl ?_ ?_
  · exact mEnds.deep cpf 9
  show mEnds [] 20 102 (139, [some (.ref 1), some (.int 3), some (.int x2), some (.int x3), some (.int x4), some (.ref 130), some (.ref 44), some (.int 1), some (.int 0), some (.int 1), some (.int (x3 + 0))], [], hC0, 0, 0) _
  refine mEnds.steps 4 (q' := (147, [some (.ref 1), some (.int 3), some (.int x2), some (.int x3), some (.int x4), some (.ref 130), some (.ref 44), some (.int 1), some (.int 0), some (.int 1), some (.int (x3 + 0))], [.int 0], (hC0.set 1 (.inr (4, [.ref 2, .ref 10, .ref 11, .ref 12, .ref 13, .ref 14, .ref 18, .int 1]))), 0, 0)) rfl ?_
  exact mEnds.ret rfl
set_option maxRecDepth 100000 in
theorem c36_FFFFFFv3F (x2 x3 x4 : Int32) (f2 : decide (x2 < 0) = false) (f3 : decide (2 < x2) = false) (f4 : decide (x4 < 0) = false) (f5 : decide (20 < x4) = false) (f6 : decide (0 < x4) = false) : ∃ hs', mEnds [] 20 102 (mentry 102 [.ref 1, .int 3, .int x2, .int x3, .int x4] hC0) (some (.int 0), hs', 0, 0) := by
  refine ⟨(hC0.set 1 (.inr (4, [.ref 2, .ref 10, .ref 11, .ref 12, .ref 13, .ref 14, .ref 18, .int 0]))), ?_⟩
  refine mEnds.steps 3 (q' := (3, [some (.ref 1), some (.int 3), some (.int x2), some (.int x3), some (.int x4), none, none, none, none, none, none], [.int 3, .int 0, .int 3], hC0, 0, 0)) rfl ?_
  refine mEnds.call (d := 19) (y' := 105) (as := [.int 3, .int 0, .int 3]) (q' := (6, [some (.ref 1), some (.int 3), some (.int x2), some (.int x3), some (.int x4), none, none, none, none, none, none], [], hC0, 0, 0)) (v := some (.int 1)) (hs' := hC0) (c' := 0) (s' := 0) rfl rfl ?_ ?_
  · refine mEnds.steps 8 (q' := (15, [some (.int 3), some (.int 0), some (.int 3)], [.int 1], hC0, 0, 0)) rfl ?_
    exact mEnds.ret rfl
  show mEnds [] 20 102 (6, [some (.ref 1), some (.int 3), some (.int x2), some (.int x3), some (.int x4), none, none, none, none, none, none], [.int 1], hC0, 0, 0) _
  refine mEnds.steps 4 (q' := (12, [some (.ref 1), some (.int 3), some (.int x2), some (.int x3), some (.int x4), none, none, none, none, none, none], [.int 2, .int 0, .int x2], hC0, 0, 0)) rfl ?_
  refine mEnds.call (d := 19) (y' := 105) (as := [.int x2, .int 0, .int 2]) (q' := (15, [some (.ref 1), some (.int 3), some (.int x2), some (.int x3), some (.int x4), none, none, none, none, none, none], [], hC0, 0, 0)) (v := some (.int 1)) (hs' := hC0) (c' := 0) (s' := 0) rfl rfl ?_ ?_
  · refine mEnds.steps 2 (q' := (2, [some (.int x2), some (.int 0), some (.int 2)], [.int 0, .int x2], hC0, 0, 0)) rfl ?_
    refine mEnds.brF (q' := (5, [some (.int x2), some (.int 0), some (.int 2)], [], hC0, 0, 0)) rfl f2 rfl ?_
    refine mEnds.steps 2 (q' := (7, [some (.int x2), some (.int 0), some (.int 2)], [.int 2, .int x2], hC0, 0, 0)) rfl ?_
    refine mEnds.brF (q' := (10, [some (.int x2), some (.int 0), some (.int 2)], [], hC0, 0, 0)) rfl f3 rfl ?_
    refine mEnds.steps 2 (q' := (15, [some (.int x2), some (.int 0), some (.int 2)], [.int 1], hC0, 0, 0)) rfl ?_
    exact mEnds.ret rfl
  show mEnds [] 20 102 (15, [some (.ref 1), some (.int 3), some (.int x2), some (.int x3), some (.int x4), none, none, none, none, none, none], [.int 1], hC0, 0, 0) _
  refine mEnds.steps 4 (q' := (23, [some (.ref 1), some (.int 3), some (.int x2), some (.int x3), some (.int x4), none, none, none, none, none, none], [.int 20, .int 0, .int x4], hC0, 0, 0)) rfl ?_
  refine mEnds.call (d := 19) (y' := 105) (as := [.int x4, .int 0, .int 20]) (q' := (26, [some (.ref 1), some (.int 3), some (.int x2), some (.int x3), some (.int x4), none, none, none, none, none, none], [], hC0, 0, 0)) (v := some (.int 1)) (hs' := hC0) (c' := 0) (s' := 0) rfl rfl ?_ ?_
  · refine mEnds.steps 2 (q' := (2, [some (.int x4), some (.int 0), some (.int 20)], [.int 0, .int x4], hC0, 0, 0)) rfl ?_
    refine mEnds.brF (q' := (5, [some (.int x4), some (.int 0), some (.int 20)], [], hC0, 0, 0)) rfl f4 rfl ?_
    refine mEnds.steps 2 (q' := (7, [some (.int x4), some (.int 0), some (.int 20)], [.int 20, .int x4], hC0, 0, 0)) rfl ?_
    refine mEnds.brF (q' := (10, [some (.int x4), some (.int 0), some (.int 20)], [], hC0, 0, 0)) rfl f5 rfl ?_
    refine mEnds.steps 2 (q' := (15, [some (.int x4), some (.int 0), some (.int 20)], [.int 1], hC0, 0, 0)) rfl ?_
    exact mEnds.ret rfl
  show mEnds [] 20 102 (26, [some (.ref 1), some (.int 3), some (.int x2), some (.int x3), some (.int x4), none, none, none, none, none, none], [.int 1], hC0, 0, 0) _
  refine mEnds.steps 7 (q' := (40, [some (.ref 1), some (.int 3), some (.int x2), some (.int x3), some (.int x4), some (.ref 130), none, none, none, none, none], [.ref 1], hC0, 0, 0)) rfl ?_
  refine mEnds.call (d := 19) (y' := 109) (as := [.ref 1]) (q' := (43, [some (.ref 1), some (.int 3), some (.int x2), some (.int x3), some (.int x4), some (.ref 130), none, none, none, none, none], [], hC0, 0, 0)) (v := some (.ref 44)) (hs' := hC0) (c' := 0) (s' := 0) rfl rfl ?_ ?_
  · exact mEnds.deep cpn 9
  show mEnds [] 20 102 (43, [some (.ref 1), some (.int 3), some (.int x2), some (.int x3), some (.int x4), some (.ref 130), none, none, none, none, none], [.ref 44], hC0, 0, 0) _
  refine mEnds.steps 9 (q' := (58, [some (.ref 1), some (.int 3), some (.int x2), some (.int x3), some (.int x4), some (.ref 130), some (.ref 44), some (.int 0), some (.int 0), some (.int 0), none], [.int x4, .int 0], hC0, 0, 0)) rfl ?_
  refine mEnds.brT (q' := (130, [some (.ref 1), some (.int 3), some (.int x2), some (.int x3), some (.int x4), some (.ref 130), some (.ref 44), some (.int 0), some (.int 0), some (.int 0), none], [], hC0, 0, 0)) rfl (mtk_ge f6) rfl ?_
  refine mEnds.steps 3 (q' := (136, [some (.ref 1), some (.int 3), some (.int x2), some (.int x3), some (.int x4), some (.ref 130), some (.ref 44), some (.int 0), some (.int 0), some (.int 0), none], [.ref 44, .ref 2], hC0, 0, 0)) rfl ?_
  refine mEnds.call (d := 19) (y' := 7) (as := [.ref 2, .ref 44]) (q' := (139, [some (.ref 1), some (.int 3), some (.int x2), some (.int x3), some (.int x4), some (.ref 130), some (.ref 44), some (.int 0), some (.int 0), some (.int 0), none], [], hC0, 0, 0)) (v := none) (hs' := hC0) (c' := 0) (s' := 0) rfl rfl ?_ ?_
  · exact mEnds.deep cpf 9
  show mEnds [] 20 102 (139, [some (.ref 1), some (.int 3), some (.int x2), some (.int x3), some (.int x4), some (.ref 130), some (.ref 44), some (.int 0), some (.int 0), some (.int 0), none], [], hC0, 0, 0) _
  refine mEnds.steps 4 (q' := (147, [some (.ref 1), some (.int 3), some (.int x2), some (.int x3), some (.int x4), some (.ref 130), some (.ref 44), some (.int 0), some (.int 0), some (.int 0), none], [.int 0], (hC0.set 1 (.inr (4, [.ref 2, .ref 10, .ref 11, .ref 12, .ref 13, .ref 14, .ref 18, .int 0]))), 0, 0)) rfl ?_
  exact mEnds.ret rfl
set_option maxRecDepth 100000 in
theorem c36_FFFFFFv3_ (x2 x3 x4 : Int32) (f2 : decide (x2 < 0) = false) (f3 : decide (2 < x2) = false) (f4 : decide (x4 < 0) = false) (f5 : decide (20 < x4) = false) : ∃ hs', mEnds [] 20 102 (mentry 102 [.ref 1, .int 3, .int x2, .int x3, .int x4] hC0) (some (.int 0), hs', 0, 0) := by
  cases f6 : decide (0 < x4) with
  | true =>
    cases f7 : decide (1 < x4) with
    | true =>
      exact c36_FFFFFFv3TT x2 x3 x4 f2 f3 f4 f5 f6 f7
    | false =>
      exact c36_FFFFFFv3TF x2 x3 x4 f2 f3 f4 f5 f6 f7
  | false =>
    exact c36_FFFFFFv3F x2 x3 x4 f2 f3 f4 f5 f6
set_option maxRecDepth 100000 in
theorem m36_FFFFFFv3TT (x2 x3 x4 : Int32) (f2 : decide (x2 < 0) = false) (f3 : decide (2 < x2) = false) (f4 : decide (x4 < 0) = false) (f5 : decide (20 < x4) = false) (f6 : decide (0 < (2 * x4)) = true) (f7 : decide (1 < (2 * x4)) = true) : ∃ hs', mEnds [] 20 181 (mentry 181 [.ref 1, .int 3, .int x2, .int x3, .int x4] hM0) (some (.int 0), hs', 0, 0) := by
  refine ⟨(hM0.set 1 (.inr (5, [.ref 2, .int 0, .ref 3, .int 0, .int 0, .int 0, .int 0, .ref 4, .int 0, .int 0, .int 0, .int 0, .int 0, .int 0, .int 0, .int 0, .ref 5, .ref 6, .ref 7, .int 0, .int 0, .ref 8, .int 0, .ref 9, .ref 10, .ref 11, .ref 12, .ref 13, .int 1]))), ?_⟩
  refine mEnds.steps 4 (q' := (6, [some (.ref 1), some (.int 3), some (.int x2), some (.int x3), some (.int x4), none, none, none, none, none], [.long 3, .long 0, .long 3], hM0, 0, 0)) rfl ?_
  refine mEnds.call (d := 19) (y' := 111) (as := [.long 3, .long 0, .long 3]) (q' := (9, [some (.ref 1), some (.int 3), some (.int x2), some (.int x3), some (.int x4), none, none, none, none, none], [], hM0, 0, 0)) (v := some (.int 1)) (hs' := hM0) (c' := 0) (s' := 0) rfl rfl ?_ ?_
  · refine mEnds.steps 10 (q' := (18, [some (.long 3), none, some (.long 0), none, some (.long 3), none], [.int 1], hM0, 0, 0)) rfl ?_
    exact mEnds.ret rfl
  show mEnds [] 20 181 (9, [some (.ref 1), some (.int 3), some (.int x2), some (.int x3), some (.int x4), none, none, none, none, none], [.int 1], hM0, 0, 0) _
  refine mEnds.steps 5 (q' := (18, [some (.ref 1), some (.int 3), some (.int x2), some (.int x3), some (.int x4), none, none, none, none, none], [.long 2, .long 0, .long x2.toInt64], hM0, 0, 0)) rfl ?_
  refine mEnds.call (d := 19) (y' := 111) (as := [.long x2.toInt64, .long 0, .long 2]) (q' := (21, [some (.ref 1), some (.int 3), some (.int x2), some (.int x3), some (.int x4), none, none, none, none, none], [], hM0, 0, 0)) (v := some (.int 1)) (hs' := hM0) (c' := 0) (s' := 0) rfl rfl ?_ ?_
  · refine mEnds.steps 3 (q' := (3, [some (.long x2.toInt64), none, some (.long 0), none, some (.long 2), none], [.int (lg_cmp x2.toInt64 0)], hM0, 0, 0)) rfl ?_
    refine mEnds.brF (q' := (6, [some (.long x2.toInt64), none, some (.long 0), none, some (.long 2), none], [], hM0, 0, 0)) rfl (lgc_lt (c := 0) (by decide) f2) rfl ?_
    refine mEnds.steps 3 (q' := (10, [some (.long x2.toInt64), none, some (.long 0), none, some (.long 2), none], [.int (lg_cmp x2.toInt64 2)], hM0, 0, 0)) rfl ?_
    refine mEnds.brF (q' := (13, [some (.long x2.toInt64), none, some (.long 0), none, some (.long 2), none], [], hM0, 0, 0)) rfl (lgc_gt (c := 2) (by decide) f3) rfl ?_
    refine mEnds.steps 2 (q' := (18, [some (.long x2.toInt64), none, some (.long 0), none, some (.long 2), none], [.int 1], hM0, 0, 0)) rfl ?_
    exact mEnds.ret rfl
  show mEnds [] 20 181 (21, [some (.ref 1), some (.int 3), some (.int x2), some (.int x3), some (.int x4), none, none, none, none, none], [.int 1], hM0, 0, 0) _
  refine mEnds.steps 5 (q' := (31, [some (.ref 1), some (.int 3), some (.int x2), some (.int x3), some (.int x4), none, none, none, none, none], [.long 20, .long 0, .long x4.toInt64], hM0, 0, 0)) rfl ?_
  refine mEnds.call (d := 19) (y' := 111) (as := [.long x4.toInt64, .long 0, .long 20]) (q' := (34, [some (.ref 1), some (.int 3), some (.int x2), some (.int x3), some (.int x4), none, none, none, none, none], [], hM0, 0, 0)) (v := some (.int 1)) (hs' := hM0) (c' := 0) (s' := 0) rfl rfl ?_ ?_
  · refine mEnds.steps 3 (q' := (3, [some (.long x4.toInt64), none, some (.long 0), none, some (.long 20), none], [.int (lg_cmp x4.toInt64 0)], hM0, 0, 0)) rfl ?_
    refine mEnds.brF (q' := (6, [some (.long x4.toInt64), none, some (.long 0), none, some (.long 20), none], [], hM0, 0, 0)) rfl (lgc_lt (c := 0) (by decide) f4) rfl ?_
    refine mEnds.steps 3 (q' := (10, [some (.long x4.toInt64), none, some (.long 0), none, some (.long 20), none], [.int (lg_cmp x4.toInt64 20)], hM0, 0, 0)) rfl ?_
    refine mEnds.brF (q' := (13, [some (.long x4.toInt64), none, some (.long 0), none, some (.long 20), none], [], hM0, 0, 0)) rfl (lgc_gt (c := 20) (by decide) f5) rfl ?_
    refine mEnds.steps 2 (q' := (18, [some (.long x4.toInt64), none, some (.long 0), none, some (.long 20), none], [.int 1], hM0, 0, 0)) rfl ?_
    exact mEnds.ret rfl
  show mEnds [] 20 181 (34, [some (.ref 1), some (.int 3), some (.int x2), some (.int x3), some (.int x4), none, none, none, none, none], [.int 1], hM0, 0, 0) _
  refine mEnds.steps 4 (q' := (44, [some (.ref 1), some (.int 3), some (.int x2), some (.int x3), some (.int x4), none, none, none, none, none], [.int 156, .int 0, .ref 1], hM0, 0, 0)) rfl ?_
  refine mEnds.call (d := 19) (y' := 152) (as := [.ref 1, .int 0, .int 156]) (q' := (47, [some (.ref 1), some (.int 3), some (.int x2), some (.int x3), some (.int x4), none, none, none, none, none], [], hM0, 0, 0)) (v := none) (hs' := hM0) (c' := 0) (s' := 0) rfl rfl ?_ ?_
  · exact mEnds.deep cp_0_156 9
  show mEnds [] 20 181 (47, [some (.ref 1), some (.int 3), some (.int x2), some (.int x3), some (.int x4), none, none, none, none, none], [], hM0, 0, 0) _
  refine mEnds.steps 10 (q' := (62, [some (.ref 1), some (.int 3), some (.int x2), some (.int x3), some (.int x4), some (.int 0), some (.int 0), some (.int 0), none, none], [.int (2 * x4), .int 0], hM0, 0, 0)) rfl ?_
  refine mEnds.brF (q' := (65, [some (.ref 1), some (.int 3), some (.int x2), some (.int x3), some (.int x4), some (.int 0), some (.int 0), some (.int 0), none, none], [], hM0, 0, 0)) rfl (mtk_ge f6) rfl ?_
  refine mEnds.steps 19 (q' := (62, [some (.ref 1), some (.int 3), some (.int x2), some (.int x3), some (.int x4), some (.int 1), some (.int 0), some (.int 1), none, none], [.int (2 * x4), .int 1], hM0, 0, 0)) rfl ?_
  refine mEnds.brF (q' := (65, [some (.ref 1), some (.int 3), some (.int x2), some (.int x3), some (.int x4), some (.int 1), some (.int 0), some (.int 1), none, none], [], hM0, 0, 0)) rfl (mtk_ge f7) rfl ?_
  refine mEnds.steps 6 (q' := (236, [some (.ref 1), some (.int 3), some (.int x2), some (.int x3), some (.int x4), some (.int 1), some (.int 0), some (.int 1), none, none], [.int 0], (hM0.set 1 (.inr (5, [.ref 2, .int 0, .ref 3, .int 0, .int 0, .int 0, .int 0, .ref 4, .int 0, .int 0, .int 0, .int 0, .int 0, .int 0, .int 0, .int 0, .ref 5, .ref 6, .ref 7, .int 0, .int 0, .ref 8, .int 0, .ref 9, .ref 10, .ref 11, .ref 12, .ref 13, .int 1]))), 0, 0)) rfl ?_
  exact mEnds.ret rfl
set_option maxRecDepth 100000 in
theorem m36_FFFFFFv3TF (x2 x3 x4 : Int32) (f2 : decide (x2 < 0) = false) (f3 : decide (2 < x2) = false) (f4 : decide (x4 < 0) = false) (f5 : decide (20 < x4) = false) (f6 : decide (0 < (2 * x4)) = true) (f7 : decide (1 < (2 * x4)) = false) : ∃ hs', mEnds [] 20 181 (mentry 181 [.ref 1, .int 3, .int x2, .int x3, .int x4] hM0) (some (.int 0), hs', 0, 0) := by
  refine ⟨(hM0.set 1 (.inr (5, [.ref 2, .int 0, .ref 3, .int 0, .int 0, .int 0, .int 0, .ref 4, .int 0, .int 0, .int 0, .int 0, .int 0, .int 0, .int 0, .int 0, .ref 5, .ref 6, .ref 7, .int 0, .int 0, .ref 8, .int 0, .ref 9, .ref 10, .ref 11, .ref 12, .ref 13, .int 1]))), ?_⟩
  refine mEnds.steps 4 (q' := (6, [some (.ref 1), some (.int 3), some (.int x2), some (.int x3), some (.int x4), none, none, none, none, none], [.long 3, .long 0, .long 3], hM0, 0, 0)) rfl ?_
  refine mEnds.call (d := 19) (y' := 111) (as := [.long 3, .long 0, .long 3]) (q' := (9, [some (.ref 1), some (.int 3), some (.int x2), some (.int x3), some (.int x4), none, none, none, none, none], [], hM0, 0, 0)) (v := some (.int 1)) (hs' := hM0) (c' := 0) (s' := 0) rfl rfl ?_ ?_
  · refine mEnds.steps 10 (q' := (18, [some (.long 3), none, some (.long 0), none, some (.long 3), none], [.int 1], hM0, 0, 0)) rfl ?_
    exact mEnds.ret rfl
  show mEnds [] 20 181 (9, [some (.ref 1), some (.int 3), some (.int x2), some (.int x3), some (.int x4), none, none, none, none, none], [.int 1], hM0, 0, 0) _
  refine mEnds.steps 5 (q' := (18, [some (.ref 1), some (.int 3), some (.int x2), some (.int x3), some (.int x4), none, none, none, none, none], [.long 2, .long 0, .long x2.toInt64], hM0, 0, 0)) rfl ?_
  refine mEnds.call (d := 19) (y' := 111) (as := [.long x2.toInt64, .long 0, .long 2]) (q' := (21, [some (.ref 1), some (.int 3), some (.int x2), some (.int x3), some (.int x4), none, none, none, none, none], [], hM0, 0, 0)) (v := some (.int 1)) (hs' := hM0) (c' := 0) (s' := 0) rfl rfl ?_ ?_
  · refine mEnds.steps 3 (q' := (3, [some (.long x2.toInt64), none, some (.long 0), none, some (.long 2), none], [.int (lg_cmp x2.toInt64 0)], hM0, 0, 0)) rfl ?_
    refine mEnds.brF (q' := (6, [some (.long x2.toInt64), none, some (.long 0), none, some (.long 2), none], [], hM0, 0, 0)) rfl (lgc_lt (c := 0) (by decide) f2) rfl ?_
    refine mEnds.steps 3 (q' := (10, [some (.long x2.toInt64), none, some (.long 0), none, some (.long 2), none], [.int (lg_cmp x2.toInt64 2)], hM0, 0, 0)) rfl ?_
    refine mEnds.brF (q' := (13, [some (.long x2.toInt64), none, some (.long 0), none, some (.long 2), none], [], hM0, 0, 0)) rfl (lgc_gt (c := 2) (by decide) f3) rfl ?_
    refine mEnds.steps 2 (q' := (18, [some (.long x2.toInt64), none, some (.long 0), none, some (.long 2), none], [.int 1], hM0, 0, 0)) rfl ?_
    exact mEnds.ret rfl
  show mEnds [] 20 181 (21, [some (.ref 1), some (.int 3), some (.int x2), some (.int x3), some (.int x4), none, none, none, none, none], [.int 1], hM0, 0, 0) _
  refine mEnds.steps 5 (q' := (31, [some (.ref 1), some (.int 3), some (.int x2), some (.int x3), some (.int x4), none, none, none, none, none], [.long 20, .long 0, .long x4.toInt64], hM0, 0, 0)) rfl ?_
  refine mEnds.call (d := 19) (y' := 111) (as := [.long x4.toInt64, .long 0, .long 20]) (q' := (34, [some (.ref 1), some (.int 3), some (.int x2), some (.int x3), some (.int x4), none, none, none, none, none], [], hM0, 0, 0)) (v := some (.int 1)) (hs' := hM0) (c' := 0) (s' := 0) rfl rfl ?_ ?_
  · refine mEnds.steps 3 (q' := (3, [some (.long x4.toInt64), none, some (.long 0), none, some (.long 20), none], [.int (lg_cmp x4.toInt64 0)], hM0, 0, 0)) rfl ?_
    refine mEnds.brF (q' := (6, [some (.long x4.toInt64), none, some (.long 0), none, some (.long 20), none], [], hM0, 0, 0)) rfl (lgc_lt (c := 0) (by decide) f4) rfl ?_
    refine mEnds.steps 3 (q' := (10, [some (.long x4.toInt64), none, some (.long 0), none, some (.long 20), none], [.int (lg_cmp x4.toInt64 20)], hM0, 0, 0)) rfl ?_
    refine mEnds.brF (q' := (13, [some (.long x4.toInt64), none, some (.long 0), none, some (.long 20), none], [], hM0, 0, 0)) rfl (lgc_gt (c := 20) (by decide) f5) rfl ?_
    refine mEnds.steps 2 (q' := (18, [some (.long x4.toInt64), none, some (.long 0), none, some (.long 20), none], [.int 1], hM0, 0, 0)) rfl ?_
    exact mEnds.ret rfl
  show mEnds [] 20 181 (34, [some (.ref 1), some (.int 3), some (.int x2), some (.int x3), some (.int x4), none, none, none, none, none], [.int 1], hM0, 0, 0) _
  refine mEnds.steps 4 (q' := (44, [some (.ref 1), some (.int 3), some (.int x2), some (.int x3), some (.int x4), none, none, none, none, none], [.int 156, .int 0, .ref 1], hM0, 0, 0)) rfl ?_
  refine mEnds.call (d := 19) (y' := 152) (as := [.ref 1, .int 0, .int 156]) (q' := (47, [some (.ref 1), some (.int 3), some (.int x2), some (.int x3), some (.int x4), none, none, none, none, none], [], hM0, 0, 0)) (v := none) (hs' := hM0) (c' := 0) (s' := 0) rfl rfl ?_ ?_
  · exact mEnds.deep cp_0_156 9
  show mEnds [] 20 181 (47, [some (.ref 1), some (.int 3), some (.int x2), some (.int x3), some (.int x4), none, none, none, none, none], [], hM0, 0, 0) _
  refine mEnds.steps 10 (q' := (62, [some (.ref 1), some (.int 3), some (.int x2), some (.int x3), some (.int x4), some (.int 0), some (.int 0), some (.int 0), none, none], [.int (2 * x4), .int 0], hM0, 0, 0)) rfl ?_
  refine mEnds.brF (q' := (65, [some (.ref 1), some (.int 3), some (.int x2), some (.int x3), some (.int x4), some (.int 0), some (.int 0), some (.int 0), none, none], [], hM0, 0, 0)) rfl (mtk_ge f6) rfl ?_
  refine mEnds.steps 19 (q' := (62, [some (.ref 1), some (.int 3), some (.int x2), some (.int x3), some (.int x4), some (.int 1), some (.int 0), some (.int 1), none, none], [.int (2 * x4), .int 1], hM0, 0, 0)) rfl ?_
  refine mEnds.brT (q' := (228, [some (.ref 1), some (.int 3), some (.int x2), some (.int x3), some (.int x4), some (.int 1), some (.int 0), some (.int 1), none, none], [], hM0, 0, 0)) rfl (mtk_ge f7) rfl ?_
  refine mEnds.steps 4 (q' := (236, [some (.ref 1), some (.int 3), some (.int x2), some (.int x3), some (.int x4), some (.int 1), some (.int 0), some (.int 1), none, none], [.int 0], (hM0.set 1 (.inr (5, [.ref 2, .int 0, .ref 3, .int 0, .int 0, .int 0, .int 0, .ref 4, .int 0, .int 0, .int 0, .int 0, .int 0, .int 0, .int 0, .int 0, .ref 5, .ref 6, .ref 7, .int 0, .int 0, .ref 8, .int 0, .ref 9, .ref 10, .ref 11, .ref 12, .ref 13, .int 1]))), 0, 0)) rfl ?_
  exact mEnds.ret rfl
set_option maxRecDepth 100000 in
theorem m36_FFFFFFv3F (x2 x3 x4 : Int32) (f2 : decide (x2 < 0) = false) (f3 : decide (2 < x2) = false) (f4 : decide (x4 < 0) = false) (f5 : decide (20 < x4) = false) (f6 : decide (0 < (2 * x4)) = false) : ∃ hs', mEnds [] 20 181 (mentry 181 [.ref 1, .int 3, .int x2, .int x3, .int x4] hM0) (some (.int 0), hs', 0, 0) := by
  refine ⟨(hM0.set 1 (.inr (5, [.ref 2, .int 0, .ref 3, .int 0, .int 0, .int 0, .int 0, .ref 4, .int 0, .int 0, .int 0, .int 0, .int 0, .int 0, .int 0, .int 0, .ref 5, .ref 6, .ref 7, .int 0, .int 0, .ref 8, .int 0, .ref 9, .ref 10, .ref 11, .ref 12, .ref 13, .int 0]))), ?_⟩
  refine mEnds.steps 4 (q' := (6, [some (.ref 1), some (.int 3), some (.int x2), some (.int x3), some (.int x4), none, none, none, none, none], [.long 3, .long 0, .long 3], hM0, 0, 0)) rfl ?_
  refine mEnds.call (d := 19) (y' := 111) (as := [.long 3, .long 0, .long 3]) (q' := (9, [some (.ref 1), some (.int 3), some (.int x2), some (.int x3), some (.int x4), none, none, none, none, none], [], hM0, 0, 0)) (v := some (.int 1)) (hs' := hM0) (c' := 0) (s' := 0) rfl rfl ?_ ?_
  · refine mEnds.steps 10 (q' := (18, [some (.long 3), none, some (.long 0), none, some (.long 3), none], [.int 1], hM0, 0, 0)) rfl ?_
    exact mEnds.ret rfl
  show mEnds [] 20 181 (9, [some (.ref 1), some (.int 3), some (.int x2), some (.int x3), some (.int x4), none, none, none, none, none], [.int 1], hM0, 0, 0) _
  refine mEnds.steps 5 (q' := (18, [some (.ref 1), some (.int 3), some (.int x2), some (.int x3), some (.int x4), none, none, none, none, none], [.long 2, .long 0, .long x2.toInt64], hM0, 0, 0)) rfl ?_
  refine mEnds.call (d := 19) (y' := 111) (as := [.long x2.toInt64, .long 0, .long 2]) (q' := (21, [some (.ref 1), some (.int 3), some (.int x2), some (.int x3), some (.int x4), none, none, none, none, none], [], hM0, 0, 0)) (v := some (.int 1)) (hs' := hM0) (c' := 0) (s' := 0) rfl rfl ?_ ?_
  · refine mEnds.steps 3 (q' := (3, [some (.long x2.toInt64), none, some (.long 0), none, some (.long 2), none], [.int (lg_cmp x2.toInt64 0)], hM0, 0, 0)) rfl ?_
    refine mEnds.brF (q' := (6, [some (.long x2.toInt64), none, some (.long 0), none, some (.long 2), none], [], hM0, 0, 0)) rfl (lgc_lt (c := 0) (by decide) f2) rfl ?_
    refine mEnds.steps 3 (q' := (10, [some (.long x2.toInt64), none, some (.long 0), none, some (.long 2), none], [.int (lg_cmp x2.toInt64 2)], hM0, 0, 0)) rfl ?_
    refine mEnds.brF (q' := (13, [some (.long x2.toInt64), none, some (.long 0), none, some (.long 2), none], [], hM0, 0, 0)) rfl (lgc_gt (c := 2) (by decide) f3) rfl ?_
    refine mEnds.steps 2 (q' := (18, [some (.long x2.toInt64), none, some (.long 0), none, some (.long 2), none], [.int 1], hM0, 0, 0)) rfl ?_
    exact mEnds.ret rfl
  show mEnds [] 20 181 (21, [some (.ref 1), some (.int 3), some (.int x2), some (.int x3), some (.int x4), none, none, none, none, none], [.int 1], hM0, 0, 0) _
  refine mEnds.steps 5 (q' := (31, [some (.ref 1), some (.int 3), some (.int x2), some (.int x3), some (.int x4), none, none, none, none, none], [.long 20, .long 0, .long x4.toInt64], hM0, 0, 0)) rfl ?_
  refine mEnds.call (d := 19) (y' := 111) (as := [.long x4.toInt64, .long 0, .long 20]) (q' := (34, [some (.ref 1), some (.int 3), some (.int x2), some (.int x3), some (.int x4), none, none, none, none, none], [], hM0, 0, 0)) (v := some (.int 1)) (hs' := hM0) (c' := 0) (s' := 0) rfl rfl ?_ ?_
  · refine mEnds.steps 3 (q' := (3, [some (.long x4.toInt64), none, some (.long 0), none, some (.long 20), none], [.int (lg_cmp x4.toInt64 0)], hM0, 0, 0)) rfl ?_
    refine mEnds.brF (q' := (6, [some (.long x4.toInt64), none, some (.long 0), none, some (.long 20), none], [], hM0, 0, 0)) rfl (lgc_lt (c := 0) (by decide) f4) rfl ?_
    refine mEnds.steps 3 (q' := (10, [some (.long x4.toInt64), none, some (.long 0), none, some (.long 20), none], [.int (lg_cmp x4.toInt64 20)], hM0, 0, 0)) rfl ?_
    refine mEnds.brF (q' := (13, [some (.long x4.toInt64), none, some (.long 0), none, some (.long 20), none], [], hM0, 0, 0)) rfl (lgc_gt (c := 20) (by decide) f5) rfl ?_
    refine mEnds.steps 2 (q' := (18, [some (.long x4.toInt64), none, some (.long 0), none, some (.long 20), none], [.int 1], hM0, 0, 0)) rfl ?_
    exact mEnds.ret rfl
  show mEnds [] 20 181 (34, [some (.ref 1), some (.int 3), some (.int x2), some (.int x3), some (.int x4), none, none, none, none, none], [.int 1], hM0, 0, 0) _
  refine mEnds.steps 4 (q' := (44, [some (.ref 1), some (.int 3), some (.int x2), some (.int x3), some (.int x4), none, none, none, none, none], [.int 156, .int 0, .ref 1], hM0, 0, 0)) rfl ?_
  refine mEnds.call (d := 19) (y' := 152) (as := [.ref 1, .int 0, .int 156]) (q' := (47, [some (.ref 1), some (.int 3), some (.int x2), some (.int x3), some (.int x4), none, none, none, none, none], [], hM0, 0, 0)) (v := none) (hs' := hM0) (c' := 0) (s' := 0) rfl rfl ?_ ?_
  · exact mEnds.deep cp_0_156 9
  show mEnds [] 20 181 (47, [some (.ref 1), some (.int 3), some (.int x2), some (.int x3), some (.int x4), none, none, none, none, none], [], hM0, 0, 0) _
  refine mEnds.steps 10 (q' := (62, [some (.ref 1), some (.int 3), some (.int x2), some (.int x3), some (.int x4), some (.int 0), some (.int 0), some (.int 0), none, none], [.int (2 * x4), .int 0], hM0, 0, 0)) rfl ?_
  refine mEnds.brT (q' := (228, [some (.ref 1), some (.int 3), some (.int x2), some (.int x3), some (.int x4), some (.int 0), some (.int 0), some (.int 0), none, none], [], hM0, 0, 0)) rfl (mtk_ge f6) rfl ?_
  refine mEnds.steps 4 (q' := (236, [some (.ref 1), some (.int 3), some (.int x2), some (.int x3), some (.int x4), some (.int 0), some (.int 0), some (.int 0), none, none], [.int 0], (hM0.set 1 (.inr (5, [.ref 2, .int 0, .ref 3, .int 0, .int 0, .int 0, .int 0, .ref 4, .int 0, .int 0, .int 0, .int 0, .int 0, .int 0, .int 0, .int 0, .ref 5, .ref 6, .ref 7, .int 0, .int 0, .ref 8, .int 0, .ref 9, .ref 10, .ref 11, .ref 12, .ref 13, .int 0]))), 0, 0)) rfl ?_
  exact mEnds.ret rfl
set_option maxRecDepth 100000 in
theorem m36_FFFFFFv3_ (x2 x3 x4 : Int32) (f2 : decide (x2 < 0) = false) (f3 : decide (2 < x2) = false) (f4 : decide (x4 < 0) = false) (f5 : decide (20 < x4) = false) : ∃ hs', mEnds [] 20 181 (mentry 181 [.ref 1, .int 3, .int x2, .int x3, .int x4] hM0) (some (.int 0), hs', 0, 0) := by
  cases f6 : decide (0 < (2 * x4)) with
  | true =>
    cases f7 : decide (1 < (2 * x4)) with
    | true =>
      exact m36_FFFFFFv3TT x2 x3 x4 f2 f3 f4 f5 f6 f7
    | false =>
      exact m36_FFFFFFv3TF x2 x3 x4 f2 f3 f4 f5 f6 f7
  | false =>
    exact m36_FFFFFFv3F x2 x3 x4 f2 f3 f4 f5 f6
theorem ok_36 (x1 x2 x3 x4 x5 : Int32) : callOK_36 x1 x2 x3 x4 x5 := by
  cases f0 : decide (x1 < 0) with
  | true =>
    obtain ⟨h1, a1⟩ := c36_T x1 x2 x3 x4 f0
    obtain ⟨h2, a2⟩ := m36_T x1 x2 x3 x4 f0
    exact ⟨_, h1, h2, a1, a2⟩
  | false =>
    cases f1 : decide (3 < x1) with
    | true =>
      obtain ⟨h1, a1⟩ := c36_FT x1 x2 x3 x4 f0 f1
      obtain ⟨h2, a2⟩ := m36_FT x1 x2 x3 x4 f0 f1
      exact ⟨_, h1, h2, a1, a2⟩
    | false =>
      cases f2 : decide (x2 < 0) with
      | true =>
        obtain ⟨h1, a1⟩ := c36_FFT x1 x2 x3 x4 f0 f1 f2
        obtain ⟨h2, a2⟩ := m36_FFT x1 x2 x3 x4 f0 f1 f2
        exact ⟨_, h1, h2, a1, a2⟩
      | false =>
        cases f3 : decide (2 < x2) with
        | true =>
          obtain ⟨h1, a1⟩ := c36_FFFT x1 x2 x3 x4 f0 f1 f2 f3
          obtain ⟨h2, a2⟩ := m36_FFFT x1 x2 x3 x4 f0 f1 f2 f3
          exact ⟨_, h1, h2, a1, a2⟩
        | false =>
          cases f4 : decide (x4 < 0) with
          | true =>
            obtain ⟨h1, a1⟩ := c36_FFFFT x1 x2 x3 x4 f0 f1 f2 f3 f4
            obtain ⟨h2, a2⟩ := m36_FFFFT x1 x2 x3 x4 f0 f1 f2 f3 f4
            exact ⟨_, h1, h2, a1, a2⟩
          | false =>
            cases f5 : decide (20 < x4) with
            | true =>
              obtain ⟨h1, a1⟩ := c36_FFFFFT x1 x2 x3 x4 f0 f1 f2 f3 f4 f5
              obtain ⟨h2, a2⟩ := m36_FFFFFT x1 x2 x3 x4 f0 f1 f2 f3 f4 f5
              exact ⟨_, h1, h2, a1, a2⟩
            | false =>
              obtain ⟨k6, hk6, ek6⟩ := i32_rng (n := 4) f0 f1 (by decide)
              clear f0 f1
              match k6, hk6, ek6 with
              | 0, _, e =>
                obtain rfl := i32_at (c := 0) e (by decide)
                obtain ⟨h1, a1⟩ := c36_FFFFFFv0_ x2 x3 x4 f2 f3 f4 f5
                obtain ⟨h2, a2⟩ := m36_FFFFFFv0_ x2 x3 x4 f2 f3 f4 f5
                exact ⟨_, h1, h2, a1, a2⟩
              | 1, _, e =>
                obtain rfl := i32_at (c := 1) e (by decide)
                obtain ⟨h1, a1⟩ := c36_FFFFFFv1_ x2 x3 x4 f2 f3 f4 f5
                obtain ⟨h2, a2⟩ := m36_FFFFFFv1_ x2 x3 x4 f2 f3 f4 f5
                exact ⟨_, h1, h2, a1, a2⟩
              | 2, _, e =>
                obtain rfl := i32_at (c := 2) e (by decide)
                obtain ⟨h1, a1⟩ := c36_FFFFFFv2_ x2 x3 x4 f2 f3 f4 f5
                obtain ⟨h2, a2⟩ := m36_FFFFFFv2_ x2 x3 x4 f2 f3 f4 f5
                exact ⟨_, h1, h2, a1, a2⟩
              | 3, _, e =>
                obtain rfl := i32_at (c := 3) e (by decide)
                obtain ⟨h1, a1⟩ := c36_FFFFFFv3_ x2 x3 x4 f2 f3 f4 f5
                obtain ⟨h2, a2⟩ := m36_FFFFFFv3_ x2 x3 x4 f2 f3 f4 f5
                exact ⟨_, h1, h2, a1, a2⟩
              | k + 4, h, _ => exact absurd h (by omega)
