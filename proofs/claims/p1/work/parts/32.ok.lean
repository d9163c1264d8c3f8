set_option maxRecDepth 100000 in
theorem c0_T (x1 : Int32) (f0 : decide (x1 < 0) = true) : ∃ hs', mEnds [] 20 55 (mentry 55 [.ref 1, .int x1] hC0) (some (.int (-1)), hs', 0, 0) := by
  refine ⟨hC0, ?_⟩
  refine mEnds.steps 3 (q' := (4, [some (.ref 1), some (.int x1)], [.int 127, .int 0, .int x1], hC0, 0, 0)) rfl ?_
  refine mEnds.call (d := 19) (y' := 105) (as := [.int x1, .int 0, .int 127]) (q' := (7, [some (.ref 1), some (.int x1)], [], hC0, 0, 0)) (v := some (.int 0)) (hs' := hC0) (c' := 0) (s' := 0) rfl rfl ?_ ?_
  · refine mEnds.steps 2 (q' := (2, [some (.int x1), some (.int 0), some (.int 127)], [.int 0, .int x1], hC0, 0, 0)) rfl ?_
    refine mEnds.brT (q' := (14, [some (.int x1), some (.int 0), some (.int 127)], [], hC0, 0, 0)) rfl f0 rfl ?_
    refine mEnds.steps 1 (q' := (15, [some (.int x1), some (.int 0), some (.int 127)], [.int 0], hC0, 0, 0)) rfl ?_
    exact mEnds.ret rfl
  show mEnds [] 20 55 (7, [some (.ref 1), some (.int x1)], [.int 0], hC0, 0, 0) _
  refine mEnds.steps 2 (q' := (11, [some (.ref 1), some (.int x1)], [.int (-1)], hC0, 0, 0)) rfl ?_
  exact mEnds.ret rfl
set_option maxRecDepth 100000 in
theorem m0_T (x1 : Int32) (f0 : decide (x1 < 0) = true) : ∃ hs', mEnds [] 20 112 (mentry 112 [.ref 1, .int x1] hM0) (some (.int (-1)), hs', 0, 0) := by
  refine ⟨hM0, ?_⟩
  refine mEnds.steps 4 (q' := (6, [some (.ref 1), some (.int x1)], [.long 127, .long 0, .long x1.toInt64], hM0, 0, 0)) rfl ?_
  refine mEnds.call (d := 19) (y' := 111) (as := [.long x1.toInt64, .long 0, .long 127]) (q' := (9, [some (.ref 1), some (.int x1)], [], hM0, 0, 0)) (v := some (.int 0)) (hs' := hM0) (c' := 0) (s' := 0) rfl rfl ?_ ?_
  · refine mEnds.steps 3 (q' := (3, [some (.long x1.toInt64), none, some (.long 0), none, some (.long 127), none], [.int (lg_cmp x1.toInt64 0)], hM0, 0, 0)) rfl ?_
    refine mEnds.brT (q' := (17, [some (.long x1.toInt64), none, some (.long 0), none, some (.long 127), none], [], hM0, 0, 0)) rfl (lgc_lt (c := 0) (by decide) f0) rfl ?_
    refine mEnds.steps 1 (q' := (18, [some (.long x1.toInt64), none, some (.long 0), none, some (.long 127), none], [.int 0], hM0, 0, 0)) rfl ?_
    exact mEnds.ret rfl
  show mEnds [] 20 112 (9, [some (.ref 1), some (.int x1)], [.int 0], hM0, 0, 0) _
  refine mEnds.steps 2 (q' := (13, [some (.ref 1), some (.int x1)], [.int (-1)], hM0, 0, 0)) rfl ?_
  exact mEnds.ret rfl
set_option maxRecDepth 100000 in
theorem c0_FT (x1 : Int32) (f0 : decide (x1 < 0) = false) (f1 : decide (127 < x1) = true) : ∃ hs', mEnds [] 20 55 (mentry 55 [.ref 1, .int x1] hC0) (some (.int (-1)), hs', 0, 0) := by
  refine ⟨hC0, ?_⟩
  refine mEnds.steps 3 (q' := (4, [some (.ref 1), some (.int x1)], [.int 127, .int 0, .int x1], hC0, 0, 0)) rfl ?_
  refine mEnds.call (d := 19) (y' := 105) (as := [.int x1, .int 0, .int 127]) (q' := (7, [some (.ref 1), some (.int x1)], [], hC0, 0, 0)) (v := some (.int 0)) (hs' := hC0) (c' := 0) (s' := 0) rfl rfl ?_ ?_
  · refine mEnds.steps 2 (q' := (2, [some (.int x1), some (.int 0), some (.int 127)], [.int 0, .int x1], hC0, 0, 0)) rfl ?_
    refine mEnds.brF (q' := (5, [some (.int x1), some (.int 0), some (.int 127)], [], hC0, 0, 0)) rfl f0 rfl ?_
    refine mEnds.steps 2 (q' := (7, [some (.int x1), some (.int 0), some (.int 127)], [.int 127, .int x1], hC0, 0, 0)) rfl ?_
    refine mEnds.brT (q' := (14, [some (.int x1), some (.int 0), some (.int 127)], [], hC0, 0, 0)) rfl f1 rfl ?_
    refine mEnds.steps 1 (q' := (15, [some (.int x1), some (.int 0), some (.int 127)], [.int 0], hC0, 0, 0)) rfl ?_
    exact mEnds.ret rfl
  show mEnds [] 20 55 (7, [some (.ref 1), some (.int x1)], [.int 0], hC0, 0, 0) _
  refine mEnds.steps 2 (q' := (11, [some (.ref 1), some (.int x1)], [.int (-1)], hC0, 0, 0)) rfl ?_
  exact mEnds.ret rfl
set_option maxRecDepth 100000 in
theorem m0_FT (x1 : Int32) (f0 : decide (x1 < 0) = false) (f1 : decide (127 < x1) = true) : ∃ hs', mEnds [] 20 112 (mentry 112 [.ref 1, .int x1] hM0) (some (.int (-1)), hs', 0, 0) := by
  refine ⟨hM0, ?_⟩
  refine mEnds.steps 4 (q' := (6, [some (.ref 1), some (.int x1)], [.long 127, .long 0, .long x1.toInt64], hM0, 0, 0)) rfl ?_
  refine mEnds.call (d := 19) (y' := 111) (as := [.long x1.toInt64, .long 0, .long 127]) (q' := (9, [some (.ref 1), some (.int x1)], [], hM0, 0, 0)) (v := some (.int 0)) (hs' := hM0) (c' := 0) (s' := 0) rfl rfl ?_ ?_
  · refine mEnds.steps 3 (q' := (3, [some (.long x1.toInt64), none, some (.long 0), none, some (.long 127), none], [.int (lg_cmp x1.toInt64 0)], hM0, 0, 0)) rfl ?_
    refine mEnds.brF (q' := (6, [some (.long x1.toInt64), none, some (.long 0), none, some (.long 127), none], [], hM0, 0, 0)) rfl (lgc_lt (c := 0) (by decide) f0) rfl ?_
    refine mEnds.steps 3 (q' := (10, [some (.long x1.toInt64), none, some (.long 0), none, some (.long 127), none], [.int (lg_cmp x1.toInt64 127)], hM0, 0, 0)) rfl ?_
    refine mEnds.brT (q' := (17, [some (.long x1.toInt64), none, some (.long 0), none, some (.long 127), none], [], hM0, 0, 0)) rfl (lgc_gt (c := 127) (by decide) f1) rfl ?_
    refine mEnds.steps 1 (q' := (18, [some (.long x1.toInt64), none, some (.long 0), none, some (.long 127), none], [.int 0], hM0, 0, 0)) rfl ?_
    exact mEnds.ret rfl
  show mEnds [] 20 112 (9, [some (.ref 1), some (.int x1)], [.int 0], hM0, 0, 0) _
  refine mEnds.steps 2 (q' := (13, [some (.ref 1), some (.int x1)], [.int (-1)], hM0, 0, 0)) rfl ?_
  exact mEnds.ret rfl
set_option maxRecDepth 100000 in
theorem c0_FF (x1 : Int32) (f0 : decide (x1 < 0) = false) (f1 : decide (127 < x1) = false) : ∃ hs', mEnds [] 20 55 (mentry 55 [.ref 1, .int x1] hC0) (some (.int 1), hs', 0, 0) := by
  refine ⟨((hC0.set 19 (.inl (1, (List.replicate 160 0).set 0 (vp_nar .byte ((x1).toInt8.toInt32))))).set 18 (.inr (3, [.ref 19, .int 1, .ref 20, .int 0, .int 0, .int 0, .int 0, .int 0, .int 0, .int 0, .int 0]))), ?_⟩
  refine mEnds.steps 3 (q' := (4, [some (.ref 1), some (.int x1)], [.int 127, .int 0, .int x1], hC0, 0, 0)) rfl ?_
  refine mEnds.call (d := 19) (y' := 105) (as := [.int x1, .int 0, .int 127]) (q' := (7, [some (.ref 1), some (.int x1)], [], hC0, 0, 0)) (v := some (.int 1)) (hs' := hC0) (c' := 0) (s' := 0) rfl rfl ?_ ?_
  · refine mEnds.steps 2 (q' := (2, [some (.int x1), some (.int 0), some (.int 127)], [.int 0, .int x1], hC0, 0, 0)) rfl ?_
    refine mEnds.brF (q' := (5, [some (.int x1), some (.int 0), some (.int 127)], [], hC0, 0, 0)) rfl f0 rfl ?_
    refine mEnds.steps 2 (q' := (7, [some (.int x1), some (.int 0), some (.int 127)], [.int 127, .int x1], hC0, 0, 0)) rfl ?_
    refine mEnds.brF (q' := (10, [some (.int x1), some (.int 0), some (.int 127)], [], hC0, 0, 0)) rfl f1 rfl ?_
    refine mEnds.steps 2 (q' := (15, [some (.int x1), some (.int 0), some (.int 127)], [.int 1], hC0, 0, 0)) rfl ?_
    exact mEnds.ret rfl
  show mEnds [] 20 55 (7, [some (.ref 1), some (.int x1)], [.int 1], hC0, 0, 0) _
  refine mEnds.steps 4 (q' := (17, [some (.ref 1), some (.int x1)], [.int x1, .ref 18], hC0, 0, 0)) rfl ?_
  refine mEnds.call (d := 19) (y' := 36) (as := [.ref 18, .int x1]) (q' := (20, [some (.ref 1), some (.int x1)], [], hC0, 0, 0)) (v := some (.int 1)) (hs' := ((hC0.set 19 (.inl (1, (List.replicate 160 0).set 0 (vp_nar .byte ((x1).toInt8.toInt32))))).set 18 (.inr (3, [.ref 19, .int 1, .ref 20, .int 0, .int 0, .int 0, .int 0, .int 0, .int 0, .int 0, .int 0])))) (c' := 0) (s' := 0) rfl rfl ?_ ?_
  · refine mEnds.steps 18 (q' := (34, [some (.ref 18), some (.int x1)], [.int 1], ((hC0.set 19 (.inl (1, (List.replicate 160 0).set 0 (vp_nar .byte ((x1).toInt8.toInt32))))).set 18 (.inr (3, [.ref 19, .int 1, .ref 20, .int 0, .int 0, .int 0, .int 0, .int 0, .int 0, .int 0, .int 0]))), 0, 0)) rfl ?_
    exact mEnds.ret rfl
  show mEnds [] 20 55 (20, [some (.ref 1), some (.int x1)], [.int 1], ((hC0.set 19 (.inl (1, (List.replicate 160 0).set 0 (vp_nar .byte ((x1).toInt8.toInt32))))).set 18 (.inr (3, [.ref 19, .int 1, .ref 20, .int 0, .int 0, .int 0, .int 0, .int 0, .int 0, .int 0, .int 0]))), 0, 0) _
  refine mEnds.steps 5 (q' := (35, [some (.ref 1), some (.int x1)], [.int 1], ((hC0.set 19 (.inl (1, (List.replicate 160 0).set 0 (vp_nar .byte ((x1).toInt8.toInt32))))).set 18 (.inr (3, [.ref 19, .int 1, .ref 20, .int 0, .int 0, .int 0, .int 0, .int 0, .int 0, .int 0, .int 0]))), 0, 0)) rfl ?_
  exact mEnds.ret rfl
set_option maxRecDepth 100000 in
theorem m0_FF (x1 : Int32) (f0 : decide (x1 < 0) = false) (f1 : decide (127 < x1) = false) : ∃ hs', mEnds [] 20 112 (mentry 112 [.ref 1, .int x1] hM0) (some (.int 1), hs', 0, 0) := by
  refine ⟨((hM0.set 4 (.inl (0, (List.replicate 160 0).set 0 x1))).set 1 (.inr (5, [.ref 2, .int 0, .ref 3, .int 0, .int 0, .int 0, .int 0, .ref 4, .int 1, .int 0, .int 0, .int 0, .int 0, .int 0, .int 0, .int 0, .ref 5, .ref 6, .ref 7, .int 0, .int 0, .ref 8, .int 0, .ref 9, .ref 10, .ref 11, .ref 12, .ref 13, .int 0]))), ?_⟩
  refine mEnds.steps 4 (q' := (6, [some (.ref 1), some (.int x1)], [.long 127, .long 0, .long x1.toInt64], hM0, 0, 0)) rfl ?_
  refine mEnds.call (d := 19) (y' := 111) (as := [.long x1.toInt64, .long 0, .long 127]) (q' := (9, [some (.ref 1), some (.int x1)], [], hM0, 0, 0)) (v := some (.int 1)) (hs' := hM0) (c' := 0) (s' := 0) rfl rfl ?_ ?_
  · refine mEnds.steps 3 (q' := (3, [some (.long x1.toInt64), none, some (.long 0), none, some (.long 127), none], [.int (lg_cmp x1.toInt64 0)], hM0, 0, 0)) rfl ?_
    refine mEnds.brF (q' := (6, [some (.long x1.toInt64), none, some (.long 0), none, some (.long 127), none], [], hM0, 0, 0)) rfl (lgc_lt (c := 0) (by decide) f0) rfl ?_
    refine mEnds.steps 3 (q' := (10, [some (.long x1.toInt64), none, some (.long 0), none, some (.long 127), none], [.int (lg_cmp x1.toInt64 127)], hM0, 0, 0)) rfl ?_
    refine mEnds.brF (q' := (13, [some (.long x1.toInt64), none, some (.long 0), none, some (.long 127), none], [], hM0, 0, 0)) rfl (lgc_gt (c := 127) (by decide) f1) rfl ?_
    refine mEnds.steps 2 (q' := (18, [some (.long x1.toInt64), none, some (.long 0), none, some (.long 127), none], [.int 1], hM0, 0, 0)) rfl ?_
    exact mEnds.ret rfl
  show mEnds [] 20 112 (9, [some (.ref 1), some (.int x1)], [.int 1], hM0, 0, 0) _
  refine mEnds.steps 19 (q' := (51, [some (.ref 1), some (.int x1)], [.int 1], ((hM0.set 4 (.inl (0, (List.replicate 160 0).set 0 x1))).set 1 (.inr (5, [.ref 2, .int 0, .ref 3, .int 0, .int 0, .int 0, .int 0, .ref 4, .int 1, .int 0, .int 0, .int 0, .int 0, .int 0, .int 0, .int 0, .ref 5, .ref 6, .ref 7, .int 0, .int 0, .ref 8, .int 0, .ref 9, .ref 10, .ref 11, .ref 12, .ref 13, .int 0]))), 0, 0)) rfl ?_
  exact mEnds.ret rfl
theorem ok_0 (x1 x2 x3 x4 x5 : Int32) : callOK_0 x1 x2 x3 x4 x5 := by
  cases f0 : decide (x1 < 0) with
  | true =>
    obtain ⟨h1, a1⟩ := c0_T x1 f0
    obtain ⟨h2, a2⟩ := m0_T x1 f0
    exact ⟨_, h1, h2, a1, a2⟩
  | false =>
    cases f1 : decide (127 < x1) with
    | true =>
      obtain ⟨h1, a1⟩ := c0_FT x1 f0 f1
      obtain ⟨h2, a2⟩ := m0_FT x1 f0 f1
      exact ⟨_, h1, h2, a1, a2⟩
    | false =>
      obtain ⟨h1, a1⟩ := c0_FF x1 f0 f1
      obtain ⟨h2, a2⟩ := m0_FF x1 f0 f1
      exact ⟨_, h1, h2, a1, a2⟩
set_option maxRecDepth 100000 in
theorem c1_T (x1 : Int32) (f0 : decide (x1 < 0) = true) : ∃ hs', mEnds [] 20 56 (mentry 56 [.ref 1, .int x1] hC0) (some (.int (-1)), hs', 0, 0) := by
  refine ⟨hC0, ?_⟩
  refine mEnds.steps 7 (q' := (11, [some (.ref 1), some (.int x1), some (.int 0)], [.int 0, .int 0, .int x1], hC0, 0, 0)) rfl ?_
  refine mEnds.call (d := 19) (y' := 105) (as := [.int x1, .int 0, .int 0]) (q' := (14, [some (.ref 1), some (.int x1), some (.int 0)], [], hC0, 0, 0)) (v := some (.int 0)) (hs' := hC0) (c' := 0) (s' := 0) rfl rfl ?_ ?_
  · refine mEnds.steps 2 (q' := (2, [some (.int x1), some (.int 0), some (.int 0)], [.int 0, .int x1], hC0, 0, 0)) rfl ?_
    refine mEnds.brT (q' := (14, [some (.int x1), some (.int 0), some (.int 0)], [], hC0, 0, 0)) rfl f0 rfl ?_
    refine mEnds.steps 1 (q' := (15, [some (.int x1), some (.int 0), some (.int 0)], [.int 0], hC0, 0, 0)) rfl ?_
    exact mEnds.ret rfl
  show mEnds [] 20 56 (14, [some (.ref 1), some (.int x1), some (.int 0)], [.int 0], hC0, 0, 0) _
  refine mEnds.steps 2 (q' := (18, [some (.ref 1), some (.int x1), some (.int 0)], [.int (-1)], hC0, 0, 0)) rfl ?_
  exact mEnds.ret rfl
set_option maxRecDepth 100000 in
theorem m1_T (x1 : Int32) (f0 : decide (x1 < 0) = true) : ∃ hs', mEnds [] 20 113 (mentry 113 [.ref 1, .int x1] hM0) (some (.int (-1)), hs', 0, 0) := by
  refine ⟨hM0, ?_⟩
  refine mEnds.steps 6 (q' := (8, [some (.ref 1), some (.int x1), none], [.long 0, .long 0, .long x1.toInt64], hM0, 0, 0)) rfl ?_
  refine mEnds.call (d := 19) (y' := 111) (as := [.long x1.toInt64, .long 0, .long 0]) (q' := (11, [some (.ref 1), some (.int x1), none], [], hM0, 0, 0)) (v := some (.int 0)) (hs' := hM0) (c' := 0) (s' := 0) rfl rfl ?_ ?_
  · refine mEnds.steps 3 (q' := (3, [some (.long x1.toInt64), none, some (.long 0), none, some (.long 0), none], [.int (lg_cmp x1.toInt64 0)], hM0, 0, 0)) rfl ?_
    refine mEnds.brT (q' := (17, [some (.long x1.toInt64), none, some (.long 0), none, some (.long 0), none], [], hM0, 0, 0)) rfl (lgc_lt (c := 0) (by decide) f0) rfl ?_
    refine mEnds.steps 1 (q' := (18, [some (.long x1.toInt64), none, some (.long 0), none, some (.long 0), none], [.int 0], hM0, 0, 0)) rfl ?_
    exact mEnds.ret rfl
  show mEnds [] 20 113 (11, [some (.ref 1), some (.int x1), none], [.int 0], hM0, 0, 0) _
  refine mEnds.steps 2 (q' := (15, [some (.ref 1), some (.int x1), none], [.int (-1)], hM0, 0, 0)) rfl ?_
  exact mEnds.ret rfl
set_option maxRecDepth 100000 in
theorem c1_FT (x1 : Int32) (f0 : decide (x1 < 0) = false) (f1 : decide (0 < x1) = true) : ∃ hs', mEnds [] 20 56 (mentry 56 [.ref 1, .int x1] hC0) (some (.int (-1)), hs', 0, 0) := by
  refine ⟨hC0, ?_⟩
  refine mEnds.steps 7 (q' := (11, [some (.ref 1), some (.int x1), some (.int 0)], [.int 0, .int 0, .int x1], hC0, 0, 0)) rfl ?_
  refine mEnds.call (d := 19) (y' := 105) (as := [.int x1, .int 0, .int 0]) (q' := (14, [some (.ref 1), some (.int x1), some (.int 0)], [], hC0, 0, 0)) (v := some (.int 0)) (hs' := hC0) (c' := 0) (s' := 0) rfl rfl ?_ ?_
  · refine mEnds.steps 2 (q' := (2, [some (.int x1), some (.int 0), some (.int 0)], [.int 0, .int x1], hC0, 0, 0)) rfl ?_
    refine mEnds.brF (q' := (5, [some (.int x1), some (.int 0), some (.int 0)], [], hC0, 0, 0)) rfl f0 rfl ?_
    refine mEnds.steps 2 (q' := (7, [some (.int x1), some (.int 0), some (.int 0)], [.int 0, .int x1], hC0, 0, 0)) rfl ?_
    refine mEnds.brT (q' := (14, [some (.int x1), some (.int 0), some (.int 0)], [], hC0, 0, 0)) rfl f1 rfl ?_
    refine mEnds.steps 1 (q' := (15, [some (.int x1), some (.int 0), some (.int 0)], [.int 0], hC0, 0, 0)) rfl ?_
    exact mEnds.ret rfl
  show mEnds [] 20 56 (14, [some (.ref 1), some (.int x1), some (.int 0)], [.int 0], hC0, 0, 0) _
  refine mEnds.steps 2 (q' := (18, [some (.ref 1), some (.int x1), some (.int 0)], [.int (-1)], hC0, 0, 0)) rfl ?_
  exact mEnds.ret rfl
set_option maxRecDepth 100000 in
theorem m1_FT (x1 : Int32) (f0 : decide (x1 < 0) = false) (f1 : decide (0 < x1) = true) : ∃ hs', mEnds [] 20 113 (mentry 113 [.ref 1, .int x1] hM0) (some (.int (-1)), hs', 0, 0) := by
  refine ⟨hM0, ?_⟩
  refine mEnds.steps 6 (q' := (8, [some (.ref 1), some (.int x1), none], [.long 0, .long 0, .long x1.toInt64], hM0, 0, 0)) rfl ?_
  refine mEnds.call (d := 19) (y' := 111) (as := [.long x1.toInt64, .long 0, .long 0]) (q' := (11, [some (.ref 1), some (.int x1), none], [], hM0, 0, 0)) (v := some (.int 0)) (hs' := hM0) (c' := 0) (s' := 0) rfl rfl ?_ ?_
  · refine mEnds.steps 3 (q' := (3, [some (.long x1.toInt64), none, some (.long 0), none, some (.long 0), none], [.int (lg_cmp x1.toInt64 0)], hM0, 0, 0)) rfl ?_
    refine mEnds.brF (q' := (6, [some (.long x1.toInt64), none, some (.long 0), none, some (.long 0), none], [], hM0, 0, 0)) rfl (lgc_lt (c := 0) (by decide) f0) rfl ?_
    refine mEnds.steps 3 (q' := (10, [some (.long x1.toInt64), none, some (.long 0), none, some (.long 0), none], [.int (lg_cmp x1.toInt64 0)], hM0, 0, 0)) rfl ?_
    refine mEnds.brT (q' := (17, [some (.long x1.toInt64), none, some (.long 0), none, some (.long 0), none], [], hM0, 0, 0)) rfl (lgc_gt (c := 0) (by decide) f1) rfl ?_
    refine mEnds.steps 1 (q' := (18, [some (.long x1.toInt64), none, some (.long 0), none, some (.long 0), none], [.int 0], hM0, 0, 0)) rfl ?_
    exact mEnds.ret rfl
  show mEnds [] 20 113 (11, [some (.ref 1), some (.int x1), none], [.int 0], hM0, 0, 0) _
  refine mEnds.steps 2 (q' := (15, [some (.ref 1), some (.int x1), none], [.int (-1)], hM0, 0, 0)) rfl ?_
  exact mEnds.ret rfl
set_option maxRecDepth 100000 in
theorem c1_FF (x1 : Int32) (f0 : decide (x1 < 0) = false) (f1 : decide (0 < x1) = false) : ∃ hs', mEnds [] 20 56 (mentry 56 [.ref 1, .int x1] hC0) (some (.int 0), hs', 0, 0) := by
  refine ⟨(hC0.set 18 (.inr (3, [.ref 19, .int x1, .ref 20, .int 0, .int 0, .int 0, .int 0, .int 0, .int 0, .int 0, .int 0]))), ?_⟩
  refine mEnds.steps 7 (q' := (11, [some (.ref 1), some (.int x1), some (.int 0)], [.int 0, .int 0, .int x1], hC0, 0, 0)) rfl ?_
  refine mEnds.call (d := 19) (y' := 105) (as := [.int x1, .int 0, .int 0]) (q' := (14, [some (.ref 1), some (.int x1), some (.int 0)], [], hC0, 0, 0)) (v := some (.int 1)) (hs' := hC0) (c' := 0) (s' := 0) rfl rfl ?_ ?_
  · refine mEnds.steps 2 (q' := (2, [some (.int x1), some (.int 0), some (.int 0)], [.int 0, .int x1], hC0, 0, 0)) rfl ?_
    refine mEnds.brF (q' := (5, [some (.int x1), some (.int 0), some (.int 0)], [], hC0, 0, 0)) rfl f0 rfl ?_
    refine mEnds.steps 2 (q' := (7, [some (.int x1), some (.int 0), some (.int 0)], [.int 0, .int x1], hC0, 0, 0)) rfl ?_
    refine mEnds.brF (q' := (10, [some (.int x1), some (.int 0), some (.int 0)], [], hC0, 0, 0)) rfl f1 rfl ?_
    refine mEnds.steps 2 (q' := (15, [some (.int x1), some (.int 0), some (.int 0)], [.int 1], hC0, 0, 0)) rfl ?_
    exact mEnds.ret rfl
  show mEnds [] 20 56 (14, [some (.ref 1), some (.int x1), some (.int 0)], [.int 1], hC0, 0, 0) _
  refine mEnds.steps 6 (q' := (28, [some (.ref 1), some (.int x1), some (.int 0)], [.int 0], (hC0.set 18 (.inr (3, [.ref 19, .int x1, .ref 20, .int 0, .int 0, .int 0, .int 0, .int 0, .int 0, .int 0, .int 0]))), 0, 0)) rfl ?_
  exact mEnds.ret rfl
set_option maxRecDepth 100000 in
theorem m1_FF (x1 : Int32) (f0 : decide (x1 < 0) = false) (f1 : decide (0 < x1) = false) : ∃ hs', mEnds [] 20 113 (mentry 113 [.ref 1, .int x1] hM0) (some (.int 0), hs', 0, 0) := by
  refine ⟨(hM0.set 1 (.inr (5, [.ref 2, .int 0, .ref 3, .int 0, .int 0, .int 0, .int 0, .ref 4, .int x1, .int 0, .int 0, .int 0, .int 0, .int 0, .int 0, .int 0, .ref 5, .ref 6, .ref 7, .int 0, .int 0, .ref 8, .int 0, .ref 9, .ref 10, .ref 11, .ref 12, .ref 13, .int 0]))), ?_⟩
  refine mEnds.steps 6 (q' := (8, [some (.ref 1), some (.int x1), none], [.long 0, .long 0, .long x1.toInt64], hM0, 0, 0)) rfl ?_
  refine mEnds.call (d := 19) (y' := 111) (as := [.long x1.toInt64, .long 0, .long 0]) (q' := (11, [some (.ref 1), some (.int x1), none], [], hM0, 0, 0)) (v := some (.int 1)) (hs' := hM0) (c' := 0) (s' := 0) rfl rfl ?_ ?_
  · refine mEnds.steps 3 (q' := (3, [some (.long x1.toInt64), none, some (.long 0), none, some (.long 0), none], [.int (lg_cmp x1.toInt64 0)], hM0, 0, 0)) rfl ?_
    refine mEnds.brF (q' := (6, [some (.long x1.toInt64), none, some (.long 0), none, some (.long 0), none], [], hM0, 0, 0)) rfl (lgc_lt (c := 0) (by decide) f0) rfl ?_
    refine mEnds.steps 3 (q' := (10, [some (.long x1.toInt64), none, some (.long 0), none, some (.long 0), none], [.int (lg_cmp x1.toInt64 0)], hM0, 0, 0)) rfl ?_
    refine mEnds.brF (q' := (13, [some (.long x1.toInt64), none, some (.long 0), none, some (.long 0), none], [], hM0, 0, 0)) rfl (lgc_gt (c := 0) (by decide) f1) rfl ?_
    refine mEnds.steps 2 (q' := (18, [some (.long x1.toInt64), none, some (.long 0), none, some (.long 0), none], [.int 1], hM0, 0, 0)) rfl ?_
    exact mEnds.ret rfl
  show mEnds [] 20 113 (11, [some (.ref 1), some (.int x1), none], [.int 1], hM0, 0, 0) _
  refine mEnds.steps 8 (q' := (27, [some (.ref 1), some (.int x1), some (.int 0)], [.int 0], (hM0.set 1 (.inr (5, [.ref 2, .int 0, .ref 3, .int 0, .int 0, .int 0, .int 0, .ref 4, .int x1, .int 0, .int 0, .int 0, .int 0, .int 0, .int 0, .int 0, .ref 5, .ref 6, .ref 7, .int 0, .int 0, .ref 8, .int 0, .ref 9, .ref 10, .ref 11, .ref 12, .ref 13, .int 0]))), 0, 0)) rfl ?_
  exact mEnds.ret rfl
theorem ok_1 (x1 x2 x3 x4 x5 : Int32) : callOK_1 x1 x2 x3 x4 x5 := by
  cases f0 : decide (x1 < 0) with
  | true =>
    obtain ⟨h1, a1⟩ := c1_T x1 f0
    obtain ⟨h2, a2⟩ := m1_T x1 f0
    exact ⟨_, h1, h2, a1, a2⟩
  | false =>
    cases f1 : decide (0 < x1) with
    | true =>
      obtain ⟨h1, a1⟩ := c1_FT x1 f0 f1
      obtain ⟨h2, a2⟩ := m1_FT x1 f0 f1
      exact ⟨_, h1, h2, a1, a2⟩
    | false =>
      obtain ⟨h1, a1⟩ := c1_FF x1 f0 f1
      obtain ⟨h2, a2⟩ := m1_FF x1 f0 f1
      exact ⟨_, h1, h2, a1, a2⟩
set_option maxRecDepth 100000 in
theorem c3_o   : ∃ hs', mEnds [] 20 58 (mentry 58 [.ref 1] hC0) (some (.int 0), hs', 0, 0) := by
  refine ⟨hC0, ?_⟩
  refine mEnds.steps 3 (q' := (7, [some (.ref 1)], [.int 0], hC0, 0, 0)) rfl ?_
  exact mEnds.ret rfl
set_option maxRecDepth 100000 in
theorem m3_o   : ∃ hs', mEnds [] 20 125 (mentry 125 [.ref 1] hM0) (some (.int 0), hs', 0, 0) := by
  refine ⟨hM0, ?_⟩
  refine mEnds.steps 2 (q' := (4, [some (.ref 1)], [.int 0], hM0, 0, 0)) rfl ?_
  exact mEnds.ret rfl
theorem ok_3 (x1 x2 x3 x4 x5 : Int32) : callOK_3 x1 x2 x3 x4 x5 := by
  obtain ⟨h1, a1⟩ := c3_o 
  obtain ⟨h2, a2⟩ := m3_o 
  exact ⟨_, h1, h2, a1, a2⟩
set_option maxRecDepth 100000 in
theorem c4_T (x1 : Int32) (f0 : decide (x1 < 0) = true) : ∃ hs', mEnds [] 20 59 (mentry 59 [.ref 1, .int x1] hC0) (some (.int (-1)), hs', 0, 0) := by
  refine ⟨hC0, ?_⟩
  refine mEnds.steps 1 (q' := (1, [some (.ref 1), some (.int x1)], [.int x1], hC0, 0, 0)) rfl ?_
  refine mEnds.brP (q' := (100, [some (.ref 1), some (.int x1)], [], hC0, 0, 0)) rfl (Or.inl (sw_lo f0 (by decide))) rfl ?_
  refine mEnds.steps 1 (q' := (101, [some (.ref 1), some (.int x1)], [.int (-1)], hC0, 0, 0)) rfl ?_
  exact mEnds.ret rfl
set_option maxRecDepth 100000 in
theorem m4_T (x1 : Int32) (f0 : decide (x1 < 0) = true) : ∃ hs', mEnds [] 20 138 (mentry 138 [.ref 1, .int x1] hM0) (some (.int (-1)), hs', 0, 0) := by
  refine ⟨hM0, ?_⟩
  refine mEnds.steps 1 (q' := (1, [some (.ref 1), some (.int x1)], [.int x1], hM0, 0, 0)) rfl ?_
  refine mEnds.brP (q' := (91, [some (.ref 1), some (.int x1)], [], hM0, 0, 0)) rfl (Or.inl (sw_lo f0 (by decide))) rfl ?_
  refine mEnds.steps 1 (q' := (92, [some (.ref 1), some (.int x1)], [.int (-1)], hM0, 0, 0)) rfl ?_
  exact mEnds.ret rfl
set_option maxRecDepth 100000 in
theorem c4_FT (x1 : Int32) (f0 : decide (x1 < 0) = false) (f1 : decide (6 < x1) = true) : ∃ hs', mEnds [] 20 59 (mentry 59 [.ref 1, .int x1] hC0) (some (.int (-1)), hs', 0, 0) := by
  refine ⟨hC0, ?_⟩
  refine mEnds.steps 1 (q' := (1, [some (.ref 1), some (.int x1)], [.int x1], hC0, 0, 0)) rfl ?_
  refine mEnds.brP (q' := (100, [some (.ref 1), some (.int x1)], [], hC0, 0, 0)) rfl (Or.inr (sw_hi f1 (by decide))) rfl ?_
  refine mEnds.steps 1 (q' := (101, [some (.ref 1), some (.int x1)], [.int (-1)], hC0, 0, 0)) rfl ?_
  exact mEnds.ret rfl
set_option maxRecDepth 100000 in
theorem m4_FT (x1 : Int32) (f0 : decide (x1 < 0) = false) (f1 : decide (6 < x1) = true) : ∃ hs', mEnds [] 20 138 (mentry 138 [.ref 1, .int x1] hM0) (some (.int (-1)), hs', 0, 0) := by
  refine ⟨hM0, ?_⟩
  refine mEnds.steps 1 (q' := (1, [some (.ref 1), some (.int x1)], [.int x1], hM0, 0, 0)) rfl ?_
  refine mEnds.brP (q' := (91, [some (.ref 1), some (.int x1)], [], hM0, 0, 0)) rfl (Or.inr (sw_hi f1 (by decide))) rfl ?_
  refine mEnds.steps 1 (q' := (92, [some (.ref 1), some (.int x1)], [.int (-1)], hM0, 0, 0)) rfl ?_
  exact mEnds.ret rfl
set_option maxRecDepth 100000 in
theorem c4_FFv0   : ∃ hs', mEnds [] 20 59 (mentry 59 [.ref 1, .int 0] hC0) (some (.int 0), hs', 0, 0) := by
  refine ⟨hC0, ?_⟩
  refine mEnds.steps 5 (q' := (51, [some (.ref 1), some (.int 0)], [.int 0], hC0, 0, 0)) rfl ?_
  exact mEnds.ret rfl
set_option maxRecDepth 100000 in
theorem m4_FFv0   : ∃ hs', mEnds [] 20 138 (mentry 138 [.ref 1, .int 0] hM0) (some (.int 0), hs', 0, 0) := by
  refine ⟨hM0, ?_⟩
  refine mEnds.steps 4 (q' := (48, [some (.ref 1), some (.int 0)], [.int 0], hM0, 0, 0)) rfl ?_
  exact mEnds.ret rfl
set_option maxRecDepth 100000 in
theorem c4_FFv1   : ∃ hs', mEnds [] 20 59 (mentry 59 [.ref 1, .int 1] hC0) (some (.int 0), hs', 0, 0) := by
  refine ⟨hC0, ?_⟩
  refine mEnds.steps 5 (q' := (59, [some (.ref 1), some (.int 1)], [.int 0], hC0, 0, 0)) rfl ?_
  exact mEnds.ret rfl
set_option maxRecDepth 100000 in
theorem m4_FFv1   : ∃ hs', mEnds [] 20 138 (mentry 138 [.ref 1, .int 1] hM0) (some (.int 0), hs', 0, 0) := by
  refine ⟨hM0, ?_⟩
  refine mEnds.steps 6 (q' := (56, [some (.ref 1), some (.int 1)], [.int 0], hM0, 0, 0)) rfl ?_
  exact mEnds.ret rfl
set_option maxRecDepth 100000 in
theorem c4_FFv2   : ∃ hs', mEnds [] 20 59 (mentry 59 [.ref 1, .int 2] hC0) (some (.int 0), hs', 0, 0) := by
  refine ⟨hC0, ?_⟩
  refine mEnds.steps 5 (q' := (67, [some (.ref 1), some (.int 2)], [.int 0], hC0, 0, 0)) rfl ?_
  exact mEnds.ret rfl
set_option maxRecDepth 100000 in
theorem m4_FFv2   : ∃ hs', mEnds [] 20 138 (mentry 138 [.ref 1, .int 2] hM0) (some (.int 0), hs', 0, 0) := by
  refine ⟨hM0, ?_⟩
  refine mEnds.steps 6 (q' := (64, [some (.ref 1), some (.int 2)], [.int 0], hM0, 0, 0)) rfl ?_
  exact mEnds.ret rfl
set_option maxRecDepth 100000 in
theorem c4_FFv3   : ∃ hs', mEnds [] 20 59 (mentry 59 [.ref 1, .int 3] hC0) (some (.int 0), hs', 0, 0) := by
  refine ⟨hC0, ?_⟩
  refine mEnds.steps 5 (q' := (75, [some (.ref 1), some (.int 3)], [.int 0], hC0, 0, 0)) rfl ?_
  exact mEnds.ret rfl
set_option maxRecDepth 100000 in
theorem m4_FFv3   : ∃ hs', mEnds [] 20 138 (mentry 138 [.ref 1, .int 3] hM0) (some (.int 0), hs', 0, 0) := by
  refine ⟨hM0, ?_⟩
  refine mEnds.steps 6 (q' := (72, [some (.ref 1), some (.int 3)], [.int 0], hM0, 0, 0)) rfl ?_
  exact mEnds.ret rfl
set_option maxRecDepth 100000 in
theorem c4_FFv4   : ∃ hs', mEnds [] 20 59 (mentry 59 [.ref 1, .int 4] hC0) (some (.int 0), hs', 0, 0) := by
  refine ⟨hC0, ?_⟩
  refine mEnds.steps 4 (q' := (80, [some (.ref 1), some (.int 4)], [.ref 2], hC0, 0, 0)) rfl ?_
  refine mEnds.call (d := 19) (y' := 15) (as := [.ref 2]) (q' := (83, [some (.ref 1), some (.int 4)], [], hC0, 0, 0)) (v := some (.int 0)) (hs' := hC0) (c' := 0) (s' := 0) rfl rfl ?_ ?_
  · refine mEnds.steps 4 (q' := (8, [some (.ref 2)], [.int 0, .ref 3], hC0, 0, 0)) rfl ?_
    refine mEnds.call (d := 18) (y' := 106) (as := [.ref 3, .int 0]) (q' := (11, [some (.ref 2)], [], hC0, 0, 0)) (v := some (.int 0)) (hs' := hC0) (c' := 0) (s' := 0) rfl rfl ?_ ?_
    · refine mEnds.steps 8 (q' := (28, [some (.ref 3), some (.int 0), some (.int 0), some (.int 0)], [.int 0], hC0, 0, 0)) rfl ?_
      exact mEnds.ret rfl
    show mEnds [] 19 15 (11, [some (.ref 2)], [.int 0], hC0, 0, 0) _
    exact mEnds.ret rfl
  show mEnds [] 20 59 (83, [some (.ref 1), some (.int 4)], [.int 0], hC0, 0, 0) _
  exact mEnds.ret rfl
set_option maxRecDepth 100000 in
theorem m4_FFv4   : ∃ hs', mEnds [] 20 138 (mentry 138 [.ref 1, .int 4] hM0) (some (.int 0), hs', 0, 0) := by
  refine ⟨hM0, ?_⟩
  refine mEnds.steps 4 (q' := (75, [some (.ref 1), some (.int 4)], [.int 0, .ref 1], hM0, 0, 0)) rfl ?_
  refine mEnds.call (d := 19) (y' := 135) (as := [.ref 1, .int 0]) (q' := (78, [some (.ref 1), some (.int 4)], [], hM0, 0, 0)) (v := some (.int 0)) (hs' := hM0) (c' := 0) (s' := 0) rfl rfl ?_ ?_
  · refine mEnds.steps 9 (q' := (30, [some (.ref 1), some (.int 0), some (.int 0), some (.int 0)], [.int 0], hM0, 0, 0)) rfl ?_
    exact mEnds.ret rfl
  show mEnds [] 20 138 (78, [some (.ref 1), some (.int 4)], [.int 0], hM0, 0, 0) _
  exact mEnds.ret rfl
set_option maxRecDepth 100000 in
theorem c4_FFv5   : ∃ hs', mEnds [] 20 59 (mentry 59 [.ref 1, .int 5] hC0) (some (.int 0), hs', 0, 0) := by
  refine ⟨hC0, ?_⟩
  refine mEnds.steps 5 (q' := (91, [some (.ref 1), some (.int 5)], [.int 0], hC0, 0, 0)) rfl ?_
  exact mEnds.ret rfl
set_option maxRecDepth 100000 in
theorem m4_FFv5   : ∃ hs', mEnds [] 20 138 (mentry 138 [.ref 1, .int 5] hM0) (some (.int 0), hs', 0, 0) := by
  refine ⟨hM0, ?_⟩
  refine mEnds.steps 4 (q' := (81, [some (.ref 1), some (.int 5)], [.int 0, .ref 1], hM0, 0, 0)) rfl ?_
  refine mEnds.call (d := 19) (y' := 136) (as := [.ref 1, .int 0]) (q' := (84, [some (.ref 1), some (.int 5)], [], hM0, 0, 0)) (v := some (.int 0)) (hs' := hM0) (c' := 0) (s' := 0) rfl rfl ?_ ?_
  · refine mEnds.steps 9 (q' := (35, [some (.ref 1), some (.int 0), some (.int 0), some (.int 0)], [.int 0], hM0, 0, 0)) rfl ?_
    exact mEnds.ret rfl
  show mEnds [] 20 138 (84, [some (.ref 1), some (.int 5)], [.int 0], hM0, 0, 0) _
  exact mEnds.ret rfl
set_option maxRecDepth 100000 in
theorem c4_FFv6   : ∃ hs', mEnds [] 20 59 (mentry 59 [.ref 1, .int 6] hC0) (some (.int 10), hs', 0, 0) := by
  refine ⟨hC0, ?_⟩
  refine mEnds.steps 4 (q' := (96, [some (.ref 1), some (.int 6)], [.ref 2], hC0, 0, 0)) rfl ?_
  refine mEnds.call (d := 19) (y' := 14) (as := [.ref 2]) (q' := (99, [some (.ref 1), some (.int 6)], [], hC0, 0, 0)) (v := some (.int 10)) (hs' := hC0) (c' := 0) (s' := 0) rfl rfl ?_ ?_
  · refine mEnds.steps 7 (q' := (12, [some (.ref 2)], [.int 10], hC0, 0, 0)) rfl ?_
    exact mEnds.ret rfl
  show mEnds [] 20 59 (99, [some (.ref 1), some (.int 6)], [.int 10], hC0, 0, 0) _
  exact mEnds.ret rfl
set_option maxRecDepth 100000 in
theorem m4_FFv6   : ∃ hs', mEnds [] 20 138 (mentry 138 [.ref 1, .int 6] hM0) (some (.int 10), hs', 0, 0) := by
  refine ⟨hM0, ?_⟩
  refine mEnds.steps 4 (q' := (87, [some (.ref 1), some (.int 6)], [.int 0, .ref 1], hM0, 0, 0)) rfl ?_
  refine mEnds.call (d := 19) (y' := 133) (as := [.ref 1, .int 0]) (q' := (90, [some (.ref 1), some (.int 6)], [], hM0, 0, 0)) (v := some (.int 10)) (hs' := hM0) (c' := 0) (s' := 0) rfl rfl ?_ ?_
  · refine mEnds.steps 17 (q' := (25, [some (.ref 1), some (.int 0)], [.int 10], hM0, 0, 0)) rfl ?_
    exact mEnds.ret rfl
  show mEnds [] 20 138 (90, [some (.ref 1), some (.int 6)], [.int 10], hM0, 0, 0) _
  exact mEnds.ret rfl
theorem ok_4 (x1 x2 x3 x4 x5 : Int32) : callOK_4 x1 x2 x3 x4 x5 := by
  cases f0 : decide (x1 < 0) with
  | true =>
    obtain ⟨h1, a1⟩ := c4_T x1 f0
    obtain ⟨h2, a2⟩ := m4_T x1 f0
    exact ⟨_, h1, h2, a1, a2⟩
  | false =>
    cases f1 : decide (6 < x1) with
    | true =>
      obtain ⟨h1, a1⟩ := c4_FT x1 f0 f1
      obtain ⟨h2, a2⟩ := m4_FT x1 f0 f1
      exact ⟨_, h1, h2, a1, a2⟩
    | false =>
      obtain ⟨k2, hk2, ek2⟩ := i32_rng (n := 7) f0 f1 (by decide)
      clear f0 f1
      match k2, hk2, ek2 with
      | 0, _, e =>
        obtain rfl := i32_at (c := 0) e (by decide)
        obtain ⟨h1, a1⟩ := c4_FFv0 
        obtain ⟨h2, a2⟩ := m4_FFv0 
        exact ⟨_, h1, h2, a1, a2⟩
      | 1, _, e =>
        obtain rfl := i32_at (c := 1) e (by decide)
        obtain ⟨h1, a1⟩ := c4_FFv1 
        obtain ⟨h2, a2⟩ := m4_FFv1 
        exact ⟨_, h1, h2, a1, a2⟩
      | 2, _, e =>
        obtain rfl := i32_at (c := 2) e (by decide)
        obtain ⟨h1, a1⟩ := c4_FFv2 
        obtain ⟨h2, a2⟩ := m4_FFv2 
        exact ⟨_, h1, h2, a1, a2⟩
      | 3, _, e =>
        obtain rfl := i32_at (c := 3) e (by decide)
        obtain ⟨h1, a1⟩ := c4_FFv3 
        obtain ⟨h2, a2⟩ := m4_FFv3 
        exact ⟨_, h1, h2, a1, a2⟩
      | 4, _, e =>
        obtain rfl := i32_at (c := 4) e (by decide)
        obtain ⟨h1, a1⟩ := c4_FFv4 
        obtain ⟨h2, a2⟩ := m4_FFv4 
        exact ⟨_, h1, h2, a1, a2⟩
      | 5, _, e =>
        obtain rfl := i32_at (c := 5) e (by decide)
        obtain ⟨h1, a1⟩ := c4_FFv5 
        obtain ⟨h2, a2⟩ := m4_FFv5 
        exact ⟨_, h1, h2, a1, a2⟩
      | 6, _, e =>
        obtain rfl := i32_at (c := 6) e (by decide)
        obtain ⟨h1, a1⟩ := c4_FFv6 
        obtain ⟨h2, a2⟩ := m4_FFv6 
        exact ⟨_, h1, h2, a1, a2⟩
      | k + 7, h, _ => exact absurd h (by omega)
set_option maxRecDepth 100000 in
theorem c5_T (x1 x2 : Int32) (f0 : decide (x1 < 0) = true) : ∃ hs', mEnds [] 20 60 (mentry 60 [.ref 1, .int x1, .int x2] hC0) (some (.int (-1)), hs', 0, 0) := by
  refine ⟨hC0, ?_⟩
  refine mEnds.steps 3 (q' := (5, [some (.ref 1), some (.int x1), some (.int x2)], [.int x1, .ref 2], hC0, 0, 0)) rfl ?_
  refine mEnds.call (d := 19) (y' := 8) (as := [.ref 2, .int x1]) (q' := (8, [some (.ref 1), some (.int x1), some (.int x2)], [], hC0, 0, 0)) (v := some (.int 0)) (hs' := hC0) (c' := 0) (s' := 0) rfl rfl ?_ ?_
  · refine mEnds.steps 1 (q' := (1, [some (.ref 2), some (.int x1)], [.int x1], hC0, 0, 0)) rfl ?_
    refine mEnds.brT (q' := (16, [some (.ref 2), some (.int x1)], [], hC0, 0, 0)) rfl f0 rfl ?_
    refine mEnds.steps 1 (q' := (17, [some (.ref 2), some (.int x1)], [.int 0], hC0, 0, 0)) rfl ?_
    exact mEnds.ret rfl
  show mEnds [] 20 60 (8, [some (.ref 1), some (.int x1), some (.int x2)], [.int 0], hC0, 0, 0) _
  refine mEnds.steps 2 (q' := (22, [some (.ref 1), some (.int x1), some (.int x2)], [.int (-1)], hC0, 0, 0)) rfl ?_
  exact mEnds.ret rfl
set_option maxRecDepth 100000 in
theorem m5_T (x1 x2 : Int32) (f0 : decide (x1 < 0) = true) : ∃ hs', mEnds [] 20 139 (mentry 139 [.ref 1, .int x1, .int x2] hM0) (some (.int (-1)), hs', 0, 0) := by
  refine ⟨hM0, ?_⟩
  refine mEnds.steps 2 (q' := (2, [some (.ref 1), some (.int x1), some (.int x2)], [.int x1, .ref 1], hM0, 0, 0)) rfl ?_
  refine mEnds.call (d := 19) (y' := 126) (as := [.ref 1, .int x1]) (q' := (5, [some (.ref 1), some (.int x1), some (.int x2)], [], hM0, 0, 0)) (v := some (.int 0)) (hs' := hM0) (c' := 0) (s' := 0) rfl rfl ?_ ?_
  · refine mEnds.steps 8 (q' := (10, [some (.ref 1), some (.int x1)], [.long (-1), .long 0, .long x1.toInt64], hM0, 0, 0)) rfl ?_
    refine mEnds.call (d := 18) (y' := 111) (as := [.long x1.toInt64, .long 0, .long (-1)]) (q' := (13, [some (.ref 1), some (.int x1)], [], hM0, 0, 0)) (v := some (.int 0)) (hs' := hM0) (c' := 0) (s' := 0) rfl rfl ?_ ?_
    · refine mEnds.steps 3 (q' := (3, [some (.long x1.toInt64), none, some (.long 0), none, some (.long (-1)), none], [.int (lg_cmp x1.toInt64 0)], hM0, 0, 0)) rfl ?_
      refine mEnds.brT (q' := (17, [some (.long x1.toInt64), none, some (.long 0), none, some (.long (-1)), none], [], hM0, 0, 0)) rfl (lgc_lt (c := 0) (by decide) f0) rfl ?_
      refine mEnds.steps 1 (q' := (18, [some (.long x1.toInt64), none, some (.long 0), none, some (.long (-1)), none], [.int 0], hM0, 0, 0)) rfl ?_
      exact mEnds.ret rfl
    show mEnds [] 19 126 (13, [some (.ref 1), some (.int x1)], [.int 0], hM0, 0, 0) _
    exact mEnds.ret rfl
  show mEnds [] 20 139 (5, [some (.ref 1), some (.int x1), some (.int x2)], [.int 0], hM0, 0, 0) _
  refine mEnds.steps 2 (q' := (21, [some (.ref 1), some (.int x1), some (.int x2)], [.int (-1)], hM0, 0, 0)) rfl ?_
  exact mEnds.ret rfl
set_option maxRecDepth 100000 in
theorem c5_F (x1 x2 : Int32) (f0 : decide (x1 < 0) = false) : ∃ hs', mEnds [] 20 60 (mentry 60 [.ref 1, .int x1, .int x2] hC0) (some (.int (-1)), hs', 0, 0) := by
  refine ⟨hC0, ?_⟩
  refine mEnds.steps 3 (q' := (5, [some (.ref 1), some (.int x1), some (.int x2)], [.int x1, .ref 2], hC0, 0, 0)) rfl ?_
  refine mEnds.call (d := 19) (y' := 8) (as := [.ref 2, .int x1]) (q' := (8, [some (.ref 1), some (.int x1), some (.int x2)], [], hC0, 0, 0)) (v := some (.int 0)) (hs' := hC0) (c' := 0) (s' := 0) rfl rfl ?_ ?_
  · refine mEnds.steps 1 (q' := (1, [some (.ref 2), some (.int x1)], [.int x1], hC0, 0, 0)) rfl ?_
    refine mEnds.brF (q' := (4, [some (.ref 2), some (.int x1)], [], hC0, 0, 0)) rfl f0 rfl ?_
    refine mEnds.steps 3 (q' := (9, [some (.ref 2), some (.int x1)], [.int 0, .int x1], hC0, 0, 0)) rfl ?_
    refine mEnds.brT (q' := (16, [some (.ref 2), some (.int x1)], [], hC0, 0, 0)) rfl (mtk_ge f0) rfl ?_
    refine mEnds.steps 1 (q' := (17, [some (.ref 2), some (.int x1)], [.int 0], hC0, 0, 0)) rfl ?_
    exact mEnds.ret rfl
  show mEnds [] 20 60 (8, [some (.ref 1), some (.int x1), some (.int x2)], [.int 0], hC0, 0, 0) _
  refine mEnds.steps 2 (q' := (22, [some (.ref 1), some (.int x1), some (.int x2)], [.int (-1)], hC0, 0, 0)) rfl ?_
  exact mEnds.ret rfl
set_option maxRecDepth 100000 in
theorem m5_F (x1 x2 : Int32) (f0 : decide (x1 < 0) = false) : ∃ hs', mEnds [] 20 139 (mentry 139 [.ref 1, .int x1, .int x2] hM0) (some (.int (-1)), hs', 0, 0) := by
  refine ⟨hM0, ?_⟩
  refine mEnds.steps 2 (q' := (2, [some (.ref 1), some (.int x1), some (.int x2)], [.int x1, .ref 1], hM0, 0, 0)) rfl ?_
  refine mEnds.call (d := 19) (y' := 126) (as := [.ref 1, .int x1]) (q' := (5, [some (.ref 1), some (.int x1), some (.int x2)], [], hM0, 0, 0)) (v := some (.int 0)) (hs' := hM0) (c' := 0) (s' := 0) rfl rfl ?_ ?_
  · refine mEnds.steps 8 (q' := (10, [some (.ref 1), some (.int x1)], [.long (-1), .long 0, .long x1.toInt64], hM0, 0, 0)) rfl ?_
    refine mEnds.call (d := 18) (y' := 111) (as := [.long x1.toInt64, .long 0, .long (-1)]) (q' := (13, [some (.ref 1), some (.int x1)], [], hM0, 0, 0)) (v := some (.int 0)) (hs' := hM0) (c' := 0) (s' := 0) rfl rfl ?_ ?_
    · refine mEnds.steps 3 (q' := (3, [some (.long x1.toInt64), none, some (.long 0), none, some (.long (-1)), none], [.int (lg_cmp x1.toInt64 0)], hM0, 0, 0)) rfl ?_
      refine mEnds.brF (q' := (6, [some (.long x1.toInt64), none, some (.long 0), none, some (.long (-1)), none], [], hM0, 0, 0)) rfl (lgc_lt (c := 0) (by decide) f0) rfl ?_
      refine mEnds.steps 3 (q' := (10, [some (.long x1.toInt64), none, some (.long 0), none, some (.long (-1)), none], [.int (lg_cmp x1.toInt64 (-1))], hM0, 0, 0)) rfl ?_
      refine mEnds.brT (q' := (17, [some (.long x1.toInt64), none, some (.long 0), none, some (.long (-1)), none], [], hM0, 0, 0)) rfl (lgc_gt (c := (-1)) (by decide) (ltF_gtT f0 (by decide))) rfl ?_
      refine mEnds.steps 1 (q' := (18, [some (.long x1.toInt64), none, some (.long 0), none, some (.long (-1)), none], [.int 0], hM0, 0, 0)) rfl ?_
      exact mEnds.ret rfl
    show mEnds [] 19 126 (13, [some (.ref 1), some (.int x1)], [.int 0], hM0, 0, 0) _
    exact mEnds.ret rfl
  show mEnds [] 20 139 (5, [some (.ref 1), some (.int x1), some (.int x2)], [.int 0], hM0, 0, 0) _
  refine mEnds.steps 2 (q' := (21, [some (.ref 1), some (.int x1), some (.int x2)], [.int (-1)], hM0, 0, 0)) rfl ?_
  exact mEnds.ret rfl
theorem ok_5 (x1 x2 x3 x4 x5 : Int32) : callOK_5 x1 x2 x3 x4 x5 := by
  cases f0 : decide (x1 < 0) with
  | true =>
    obtain ⟨h1, a1⟩ := c5_T x1 x2 f0
    obtain ⟨h2, a2⟩ := m5_T x1 x2 f0
    exact ⟨_, h1, h2, a1, a2⟩
  | false =>
    obtain ⟨h1, a1⟩ := c5_F x1 x2 f0
    obtain ⟨h2, a2⟩ := m5_F x1 x2 f0
    exact ⟨_, h1, h2, a1, a2⟩
set_option maxRecDepth 100000 in
theorem c6_T (x1 : Int32) (f0 : decide (x1 < 0) = true) : ∃ hs', mEnds [] 20 62 (mentry 62 [.ref 1, .int x1] hC0) (some (.int (-1)), hs', 0, 0) := by
  refine ⟨hC0, ?_⟩
  refine mEnds.steps 3 (q' := (5, [some (.ref 1), some (.int x1)], [.int x1, .ref 2], hC0, 0, 0)) rfl ?_
  refine mEnds.call (d := 19) (y' := 9) (as := [.ref 2, .int x1]) (q' := (8, [some (.ref 1), some (.int x1)], [], hC0, 0, 0)) (v := some (.int 0)) (hs' := hC0) (c' := 0) (s' := 0) rfl rfl ?_ ?_
  · refine mEnds.steps 1 (q' := (1, [some (.ref 2), some (.int x1)], [.int x1], hC0, 0, 0)) rfl ?_
    refine mEnds.brT (q' := (18, [some (.ref 2), some (.int x1)], [], hC0, 0, 0)) rfl f0 rfl ?_
    refine mEnds.steps 1 (q' := (19, [some (.ref 2), some (.int x1)], [.int 0], hC0, 0, 0)) rfl ?_
    exact mEnds.ret rfl
  show mEnds [] 20 62 (8, [some (.ref 1), some (.int x1)], [.int 0], hC0, 0, 0) _
  refine mEnds.steps 2 (q' := (24, [some (.ref 1), some (.int x1)], [.int (-1)], hC0, 0, 0)) rfl ?_
  exact mEnds.ret rfl
set_option maxRecDepth 100000 in
theorem m6_T (x1 : Int32) (f0 : decide (x1 < 0) = true) : ∃ hs', mEnds [] 20 140 (mentry 140 [.ref 1, .int x1] hM0) (some (.int (-1)), hs', 0, 0) := by
  refine ⟨hM0, ?_⟩
  refine mEnds.steps 2 (q' := (2, [some (.ref 1), some (.int x1)], [.int x1, .ref 1], hM0, 0, 0)) rfl ?_
  refine mEnds.call (d := 19) (y' := 127) (as := [.ref 1, .int x1]) (q' := (5, [some (.ref 1), some (.int x1)], [], hM0, 0, 0)) (v := some (.int 0)) (hs' := hM0) (c' := 0) (s' := 0) rfl rfl ?_ ?_
  · refine mEnds.steps 8 (q' := (10, [some (.ref 1), some (.int x1)], [.long (-2), .long 0, .long x1.toInt64], hM0, 0, 0)) rfl ?_
    refine mEnds.call (d := 18) (y' := 111) (as := [.long x1.toInt64, .long 0, .long (-2)]) (q' := (13, [some (.ref 1), some (.int x1)], [], hM0, 0, 0)) (v := some (.int 0)) (hs' := hM0) (c' := 0) (s' := 0) rfl rfl ?_ ?_
    · refine mEnds.steps 3 (q' := (3, [some (.long x1.toInt64), none, some (.long 0), none, some (.long (-2)), none], [.int (lg_cmp x1.toInt64 0)], hM0, 0, 0)) rfl ?_
      refine mEnds.brT (q' := (17, [some (.long x1.toInt64), none, some (.long 0), none, some (.long (-2)), none], [], hM0, 0, 0)) rfl (lgc_lt (c := 0) (by decide) f0) rfl ?_
      refine mEnds.steps 1 (q' := (18, [some (.long x1.toInt64), none, some (.long 0), none, some (.long (-2)), none], [.int 0], hM0, 0, 0)) rfl ?_
      exact mEnds.ret rfl
    show mEnds [] 19 127 (13, [some (.ref 1), some (.int x1)], [.int 0], hM0, 0, 0) _
    exact mEnds.ret rfl
  show mEnds [] 20 140 (5, [some (.ref 1), some (.int x1)], [.int 0], hM0, 0, 0) _
  refine mEnds.steps 2 (q' := (23, [some (.ref 1), some (.int x1)], [.int (-1)], hM0, 0, 0)) rfl ?_
  exact mEnds.ret rfl
set_option maxRecDepth 100000 in
theorem c6_F (x1 : Int32) (f0 : decide (x1 < 0) = false) : ∃ hs', mEnds [] 20 62 (mentry 62 [.ref 1, .int x1] hC0) (some (.int (-1)), hs', 0, 0) := by
  refine ⟨hC0, ?_⟩
  refine mEnds.steps 3 (q' := (5, [some (.ref 1), some (.int x1)], [.int x1, .ref 2], hC0, 0, 0)) rfl ?_
  refine mEnds.call (d := 19) (y' := 9) (as := [.ref 2, .int x1]) (q' := (8, [some (.ref 1), some (.int x1)], [], hC0, 0, 0)) (v := some (.int 0)) (hs' := hC0) (c' := 0) (s' := 0) rfl rfl ?_ ?_
  · refine mEnds.steps 1 (q' := (1, [some (.ref 2), some (.int x1)], [.int x1], hC0, 0, 0)) rfl ?_
    refine mEnds.brF (q' := (4, [some (.ref 2), some (.int x1)], [], hC0, 0, 0)) rfl f0 rfl ?_
    refine mEnds.steps 5 (q' := (11, [some (.ref 2), some (.int x1)], [.int (-1), .int x1], hC0, 0, 0)) rfl ?_
    refine mEnds.brT (q' := (18, [some (.ref 2), some (.int x1)], [], hC0, 0, 0)) rfl (mtk_ge (lt_F f0 (by decide))) rfl ?_
    refine mEnds.steps 1 (q' := (19, [some (.ref 2), some (.int x1)], [.int 0], hC0, 0, 0)) rfl ?_
    exact mEnds.ret rfl
  show mEnds [] 20 62 (8, [some (.ref 1), some (.int x1)], [.int 0], hC0, 0, 0) _
  refine mEnds.steps 2 (q' := (24, [some (.ref 1), some (.int x1)], [.int (-1)], hC0, 0, 0)) rfl ?_
  exact mEnds.ret rfl
set_option maxRecDepth 100000 in
theorem m6_F (x1 : Int32) (f0 : decide (x1 < 0) = false) : ∃ hs', mEnds [] 20 140 (mentry 140 [.ref 1, .int x1] hM0) (some (.int (-1)), hs', 0, 0) := by
  refine ⟨hM0, ?_⟩
  refine mEnds.steps 2 (q' := (2, [some (.ref 1), some (.int x1)], [.int x1, .ref 1], hM0, 0, 0)) rfl ?_
  refine mEnds.call (d := 19) (y' := 127) (as := [.ref 1, .int x1]) (q' := (5, [some (.ref 1), some (.int x1)], [], hM0, 0, 0)) (v := some (.int 0)) (hs' := hM0) (c' := 0) (s' := 0) rfl rfl ?_ ?_
  · refine mEnds.steps 8 (q' := (10, [some (.ref 1), some (.int x1)], [.long (-2), .long 0, .long x1.toInt64], hM0, 0, 0)) rfl ?_
    refine mEnds.call (d := 18) (y' := 111) (as := [.long x1.toInt64, .long 0, .long (-2)]) (q' := (13, [some (.ref 1), some (.int x1)], [], hM0, 0, 0)) (v := some (.int 0)) (hs' := hM0) (c' := 0) (s' := 0) rfl rfl ?_ ?_
    · refine mEnds.steps 3 (q' := (3, [some (.long x1.toInt64), none, some (.long 0), none, some (.long (-2)), none], [.int (lg_cmp x1.toInt64 0)], hM0, 0, 0)) rfl ?_
      refine mEnds.brF (q' := (6, [some (.long x1.toInt64), none, some (.long 0), none, some (.long (-2)), none], [], hM0, 0, 0)) rfl (lgc_lt (c := 0) (by decide) f0) rfl ?_
      refine mEnds.steps 3 (q' := (10, [some (.long x1.toInt64), none, some (.long 0), none, some (.long (-2)), none], [.int (lg_cmp x1.toInt64 (-2))], hM0, 0, 0)) rfl ?_
      refine mEnds.brT (q' := (17, [some (.long x1.toInt64), none, some (.long 0), none, some (.long (-2)), none], [], hM0, 0, 0)) rfl (lgc_gt (c := (-2)) (by decide) (ltF_gtT f0 (by decide))) rfl ?_
      refine mEnds.steps 1 (q' := (18, [some (.long x1.toInt64), none, some (.long 0), none, some (.long (-2)), none], [.int 0], hM0, 0, 0)) rfl ?_
      exact mEnds.ret rfl
    show mEnds [] 19 127 (13, [some (.ref 1), some (.int x1)], [.int 0], hM0, 0, 0) _
    exact mEnds.ret rfl
  show mEnds [] 20 140 (5, [some (.ref 1), some (.int x1)], [.int 0], hM0, 0, 0) _
  refine mEnds.steps 2 (q' := (23, [some (.ref 1), some (.int x1)], [.int (-1)], hM0, 0, 0)) rfl ?_
  exact mEnds.ret rfl
theorem ok_6 (x1 x2 x3 x4 x5 : Int32) : callOK_6 x1 x2 x3 x4 x5 := by
  cases f0 : decide (x1 < 0) with
  | true =>
    obtain ⟨h1, a1⟩ := c6_T x1 f0
    obtain ⟨h2, a2⟩ := m6_T x1 f0
    exact ⟨_, h1, h2, a1, a2⟩
  | false =>
    obtain ⟨h1, a1⟩ := c6_F x1 f0
    obtain ⟨h2, a2⟩ := m6_F x1 f0
    exact ⟨_, h1, h2, a1, a2⟩
set_option maxRecDepth 100000 in
theorem c7_T (x1 : Int32) (f0 : decide (x1 < 0) = true) : ∃ hs', mEnds [] 20 63 (mentry 63 [.ref 1, .int x1] hC0) (some (.int (-1)), hs', 0, 0) := by
  refine ⟨hC0, ?_⟩
  refine mEnds.steps 3 (q' := (4, [some (.ref 1), some (.int x1)], [.int 7, .int 0, .int x1], hC0, 0, 0)) rfl ?_
  refine mEnds.call (d := 19) (y' := 105) (as := [.int x1, .int 0, .int 7]) (q' := (7, [some (.ref 1), some (.int x1)], [], hC0, 0, 0)) (v := some (.int 0)) (hs' := hC0) (c' := 0) (s' := 0) rfl rfl ?_ ?_
  · refine mEnds.steps 2 (q' := (2, [some (.int x1), some (.int 0), some (.int 7)], [.int 0, .int x1], hC0, 0, 0)) rfl ?_
    refine mEnds.brT (q' := (14, [some (.int x1), some (.int 0), some (.int 7)], [], hC0, 0, 0)) rfl f0 rfl ?_
    refine mEnds.steps 1 (q' := (15, [some (.int x1), some (.int 0), some (.int 7)], [.int 0], hC0, 0, 0)) rfl ?_
    exact mEnds.ret rfl
  show mEnds [] 20 63 (7, [some (.ref 1), some (.int x1)], [.int 0], hC0, 0, 0) _
  refine mEnds.steps 2 (q' := (23, [some (.ref 1), some (.int x1)], [.int (-1)], hC0, 0, 0)) rfl ?_
  exact mEnds.ret rfl
set_option maxRecDepth 100000 in
theorem m7_T (x1 : Int32) (f0 : decide (x1 < 0) = true) : ∃ hs', mEnds [] 20 141 (mentry 141 [.ref 1, .int x1] hM0) (some (.int (-1)), hs', 0, 0) := by
  refine ⟨hM0, ?_⟩
  refine mEnds.steps 4 (q' := (6, [some (.ref 1), some (.int x1)], [.long 7, .long 0, .long x1.toInt64], hM0, 0, 0)) rfl ?_
  refine mEnds.call (d := 19) (y' := 111) (as := [.long x1.toInt64, .long 0, .long 7]) (q' := (9, [some (.ref 1), some (.int x1)], [], hM0, 0, 0)) (v := some (.int 0)) (hs' := hM0) (c' := 0) (s' := 0) rfl rfl ?_ ?_
  · refine mEnds.steps 3 (q' := (3, [some (.long x1.toInt64), none, some (.long 0), none, some (.long 7), none], [.int (lg_cmp x1.toInt64 0)], hM0, 0, 0)) rfl ?_
    refine mEnds.brT (q' := (17, [some (.long x1.toInt64), none, some (.long 0), none, some (.long 7), none], [], hM0, 0, 0)) rfl (lgc_lt (c := 0) (by decide) f0) rfl ?_
    refine mEnds.steps 1 (q' := (18, [some (.long x1.toInt64), none, some (.long 0), none, some (.long 7), none], [.int 0], hM0, 0, 0)) rfl ?_
    exact mEnds.ret rfl
  show mEnds [] 20 141 (9, [some (.ref 1), some (.int x1)], [.int 0], hM0, 0, 0) _
  refine mEnds.steps 2 (q' := (28, [some (.ref 1), some (.int x1)], [.int (-1)], hM0, 0, 0)) rfl ?_
  exact mEnds.ret rfl
set_option maxRecDepth 100000 in
theorem c7_FT (x1 : Int32) (f0 : decide (x1 < 0) = false) (f1 : decide (7 < x1) = true) : ∃ hs', mEnds [] 20 63 (mentry 63 [.ref 1, .int x1] hC0) (some (.int (-1)), hs', 0, 0) := by
  refine ⟨hC0, ?_⟩
  refine mEnds.steps 3 (q' := (4, [some (.ref 1), some (.int x1)], [.int 7, .int 0, .int x1], hC0, 0, 0)) rfl ?_
  refine mEnds.call (d := 19) (y' := 105) (as := [.int x1, .int 0, .int 7]) (q' := (7, [some (.ref 1), some (.int x1)], [], hC0, 0, 0)) (v := some (.int 0)) (hs' := hC0) (c' := 0) (s' := 0) rfl rfl ?_ ?_
  · refine mEnds.steps 2 (q' := (2, [some (.int x1), some (.int 0), some (.int 7)], [.int 0, .int x1], hC0, 0, 0)) rfl ?_
    refine mEnds.brF (q' := (5, [some (.int x1), some (.int 0), some (.int 7)], [], hC0, 0, 0)) rfl f0 rfl ?_
    refine mEnds.steps 2 (q' := (7, [some (.int x1), some (.int 0), some (.int 7)], [.int 7, .int x1], hC0, 0, 0)) rfl ?_
    refine mEnds.brT (q' := (14, [some (.int x1), some (.int 0), some (.int 7)], [], hC0, 0, 0)) rfl f1 rfl ?_
    refine mEnds.steps 1 (q' := (15, [some (.int x1), some (.int 0), some (.int 7)], [.int 0], hC0, 0, 0)) rfl ?_
    exact mEnds.ret rfl
  show mEnds [] 20 63 (7, [some (.ref 1), some (.int x1)], [.int 0], hC0, 0, 0) _
  refine mEnds.steps 2 (q' := (23, [some (.ref 1), some (.int x1)], [.int (-1)], hC0, 0, 0)) rfl ?_
  exact mEnds.ret rfl
set_option maxRecDepth 100000 in
theorem m7_FT (x1 : Int32) (f0 : decide (x1 < 0) = false) (f1 : decide (7 < x1) = true) : ∃ hs', mEnds [] 20 141 (mentry 141 [.ref 1, .int x1] hM0) (some (.int (-1)), hs', 0, 0) := by
  refine ⟨hM0, ?_⟩
  refine mEnds.steps 4 (q' := (6, [some (.ref 1), some (.int x1)], [.long 7, .long 0, .long x1.toInt64], hM0, 0, 0)) rfl ?_
  refine mEnds.call (d := 19) (y' := 111) (as := [.long x1.toInt64, .long 0, .long 7]) (q' := (9, [some (.ref 1), some (.int x1)], [], hM0, 0, 0)) (v := some (.int 0)) (hs' := hM0) (c' := 0) (s' := 0) rfl rfl ?_ ?_
  · refine mEnds.steps 3 (q' := (3, [some (.long x1.toInt64), none, some (.long 0), none, some (.long 7), none], [.int (lg_cmp x1.toInt64 0)], hM0, 0, 0)) rfl ?_
    refine mEnds.brF (q' := (6, [some (.long x1.toInt64), none, some (.long 0), none, some (.long 7), none], [], hM0, 0, 0)) rfl (lgc_lt (c := 0) (by decide) f0) rfl ?_
    refine mEnds.steps 3 (q' := (10, [some (.long x1.toInt64), none, some (.long 0), none, some (.long 7), none], [.int (lg_cmp x1.toInt64 7)], hM0, 0, 0)) rfl ?_
    refine mEnds.brT (q' := (17, [some (.long x1.toInt64), none, some (.long 0), none, some (.long 7), none], [], hM0, 0, 0)) rfl (lgc_gt (c := 7) (by decide) f1) rfl ?_
    refine mEnds.steps 1 (q' := (18, [some (.long x1.toInt64), none, some (.long 0), none, some (.long 7), none], [.int 0], hM0, 0, 0)) rfl ?_
    exact mEnds.ret rfl
  show mEnds [] 20 141 (9, [some (.ref 1), some (.int x1)], [.int 0], hM0, 0, 0) _
  refine mEnds.steps 2 (q' := (28, [some (.ref 1), some (.int x1)], [.int (-1)], hM0, 0, 0)) rfl ?_
  exact mEnds.ret rfl
set_option maxRecDepth 100000 in
theorem c7_FFv0   : ∃ hs', mEnds [] 20 63 (mentry 63 [.ref 1, .int 0] hC0) (some (.int 10), hs', 0, 0) := by
  refine ⟨hC0, ?_⟩
  refine mEnds.steps 3 (q' := (4, [some (.ref 1), some (.int 0)], [.int 7, .int 0, .int 0], hC0, 0, 0)) rfl ?_
  refine mEnds.call (d := 19) (y' := 105) (as := [.int 0, .int 0, .int 7]) (q' := (7, [some (.ref 1), some (.int 0)], [], hC0, 0, 0)) (v := some (.int 1)) (hs' := hC0) (c' := 0) (s' := 0) rfl rfl ?_ ?_
  · refine mEnds.steps 8 (q' := (15, [some (.int 0), some (.int 0), some (.int 7)], [.int 1], hC0, 0, 0)) rfl ?_
    exact mEnds.ret rfl
  show mEnds [] 20 63 (7, [some (.ref 1), some (.int 0)], [.int 1], hC0, 0, 0) _
  refine mEnds.steps 7 (q' := (23, [some (.ref 1), some (.int 0)], [.int 10], hC0, 0, 0)) rfl ?_
  exact mEnds.ret rfl
set_option maxRecDepth 100000 in
theorem m7_FFv0   : ∃ hs', mEnds [] 20 141 (mentry 141 [.ref 1, .int 0] hM0) (some (.int 10), hs', 0, 0) := by
  refine ⟨hM0, ?_⟩
  refine mEnds.steps 4 (q' := (6, [some (.ref 1), some (.int 0)], [.long 7, .long 0, .long 0], hM0, 0, 0)) rfl ?_
  refine mEnds.call (d := 19) (y' := 111) (as := [.long 0, .long 0, .long 7]) (q' := (9, [some (.ref 1), some (.int 0)], [], hM0, 0, 0)) (v := some (.int 1)) (hs' := hM0) (c' := 0) (s' := 0) rfl rfl ?_ ?_
  · refine mEnds.steps 10 (q' := (18, [some (.long 0), none, some (.long 0), none, some (.long 7), none], [.int 1], hM0, 0, 0)) rfl ?_
    exact mEnds.ret rfl
  show mEnds [] 20 141 (9, [some (.ref 1), some (.int 0)], [.int 1], hM0, 0, 0) _
  refine mEnds.steps 10 (q' := (28, [some (.ref 1), some (.int 0)], [.int 10], hM0, 0, 0)) rfl ?_
  exact mEnds.ret rfl
set_option maxRecDepth 100000 in
theorem c7_FFv1   : ∃ hs', mEnds [] 20 63 (mentry 63 [.ref 1, .int 1] hC0) (some (.int 10), hs', 0, 0) := by
  refine ⟨hC0, ?_⟩
  refine mEnds.steps 3 (q' := (4, [some (.ref 1), some (.int 1)], [.int 7, .int 0, .int 1], hC0, 0, 0)) rfl ?_
  refine mEnds.call (d := 19) (y' := 105) (as := [.int 1, .int 0, .int 7]) (q' := (7, [some (.ref 1), some (.int 1)], [], hC0, 0, 0)) (v := some (.int 1)) (hs' := hC0) (c' := 0) (s' := 0) rfl rfl ?_ ?_
  · refine mEnds.steps 8 (q' := (15, [some (.int 1), some (.int 0), some (.int 7)], [.int 1], hC0, 0, 0)) rfl ?_
    exact mEnds.ret rfl
  show mEnds [] 20 63 (7, [some (.ref 1), some (.int 1)], [.int 1], hC0, 0, 0) _
  refine mEnds.steps 7 (q' := (23, [some (.ref 1), some (.int 1)], [.int 10], hC0, 0, 0)) rfl ?_
  exact mEnds.ret rfl
set_option maxRecDepth 100000 in
theorem m7_FFv1   : ∃ hs', mEnds [] 20 141 (mentry 141 [.ref 1, .int 1] hM0) (some (.int 10), hs', 0, 0) := by
  refine ⟨hM0, ?_⟩
  refine mEnds.steps 4 (q' := (6, [some (.ref 1), some (.int 1)], [.long 7, .long 0, .long 1], hM0, 0, 0)) rfl ?_
  refine mEnds.call (d := 19) (y' := 111) (as := [.long 1, .long 0, .long 7]) (q' := (9, [some (.ref 1), some (.int 1)], [], hM0, 0, 0)) (v := some (.int 1)) (hs' := hM0) (c' := 0) (s' := 0) rfl rfl ?_ ?_
  · refine mEnds.steps 10 (q' := (18, [some (.long 1), none, some (.long 0), none, some (.long 7), none], [.int 1], hM0, 0, 0)) rfl ?_
    exact mEnds.ret rfl
  show mEnds [] 20 141 (9, [some (.ref 1), some (.int 1)], [.int 1], hM0, 0, 0) _
  refine mEnds.steps 10 (q' := (28, [some (.ref 1), some (.int 1)], [.int 10], hM0, 0, 0)) rfl ?_
  exact mEnds.ret rfl
set_option maxRecDepth 100000 in
theorem c7_FFv2   : ∃ hs', mEnds [] 20 63 (mentry 63 [.ref 1, .int 2] hC0) (some (.int 10), hs', 0, 0) := by
  refine ⟨hC0, ?_⟩
  refine mEnds.steps 3 (q' := (4, [some (.ref 1), some (.int 2)], [.int 7, .int 0, .int 2], hC0, 0, 0)) rfl ?_
  refine mEnds.call (d := 19) (y' := 105) (as := [.int 2, .int 0, .int 7]) (q' := (7, [some (.ref 1), some (.int 2)], [], hC0, 0, 0)) (v := some (.int 1)) (hs' := hC0) (c' := 0) (s' := 0) rfl rfl ?_ ?_
  · refine mEnds.steps 8 (q' := (15, [some (.int 2), some (.int 0), some (.int 7)], [.int 1], hC0, 0, 0)) rfl ?_
    exact mEnds.ret rfl
  show mEnds [] 20 63 (7, [some (.ref 1), some (.int 2)], [.int 1], hC0, 0, 0) _
  refine mEnds.steps 7 (q' := (23, [some (.ref 1), some (.int 2)], [.int 10], hC0, 0, 0)) rfl ?_
  exact mEnds.ret rfl
set_option maxRecDepth 100000 in
theorem m7_FFv2   : ∃ hs', mEnds [] 20 141 (mentry 141 [.ref 1, .int 2] hM0) (some (.int 10), hs', 0, 0) := by
  refine ⟨hM0, ?_⟩
  refine mEnds.steps 4 (q' := (6, [some (.ref 1), some (.int 2)], [.long 7, .long 0, .long 2], hM0, 0, 0)) rfl ?_
  refine mEnds.call (d := 19) (y' := 111) (as := [.long 2, .long 0, .long 7]) (q' := (9, [some (.ref 1), some (.int 2)], [], hM0, 0, 0)) (v := some (.int 1)) (hs' := hM0) (c' := 0) (s' := 0) rfl rfl ?_ ?_
  · refine mEnds.steps 10 (q' := (18, [some (.long 2), none, some (.long 0), none, some (.long 7), none], [.int 1], hM0, 0, 0)) rfl ?_
    exact mEnds.ret rfl
  show mEnds [] 20 141 (9, [some (.ref 1), some (.int 2)], [.int 1], hM0, 0, 0) _
  refine mEnds.steps 10 (q' := (28, [some (.ref 1), some (.int 2)], [.int 10], hM0, 0, 0)) rfl ?_
  exact mEnds.ret rfl
set_option maxRecDepth 100000 in
theorem c7_FFv3   : ∃ hs', mEnds [] 20 63 (mentry 63 [.ref 1, .int 3] hC0) (some (.int 10), hs', 0, 0) := by
  refine ⟨hC0, ?_⟩
  refine mEnds.steps 3 (q' := (4, [some (.ref 1), some (.int 3)], [.int 7, .int 0, .int 3], hC0, 0, 0)) rfl ?_
  refine mEnds.call (d := 19) (y' := 105) (as := [.int 3, .int 0, .int 7]) (q' := (7, [some (.ref 1), some (.int 3)], [], hC0, 0, 0)) (v := some (.int 1)) (hs' := hC0) (c' := 0) (s' := 0) rfl rfl ?_ ?_
  · refine mEnds.steps 8 (q' := (15, [some (.int 3), some (.int 0), some (.int 7)], [.int 1], hC0, 0, 0)) rfl ?_
    exact mEnds.ret rfl
  show mEnds [] 20 63 (7, [some (.ref 1), some (.int 3)], [.int 1], hC0, 0, 0) _
  refine mEnds.steps 7 (q' := (23, [some (.ref 1), some (.int 3)], [.int 10], hC0, 0, 0)) rfl ?_
  exact mEnds.ret rfl
set_option maxRecDepth 100000 in
theorem m7_FFv3   : ∃ hs', mEnds [] 20 141 (mentry 141 [.ref 1, .int 3] hM0) (some (.int 10), hs', 0, 0) := by
  refine ⟨hM0, ?_⟩
  refine mEnds.steps 4 (q' := (6, [some (.ref 1), some (.int 3)], [.long 7, .long 0, .long 3], hM0, 0, 0)) rfl ?_
  refine mEnds.call (d := 19) (y' := 111) (as := [.long 3, .long 0, .long 7]) (q' := (9, [some (.ref 1), some (.int 3)], [], hM0, 0, 0)) (v := some (.int 1)) (hs' := hM0) (c' := 0) (s' := 0) rfl rfl ?_ ?_
  · refine mEnds.steps 10 (q' := (18, [some (.long 3), none, some (.long 0), none, some (.long 7), none], [.int 1], hM0, 0, 0)) rfl ?_
    exact mEnds.ret rfl
  show mEnds [] 20 141 (9, [some (.ref 1), some (.int 3)], [.int 1], hM0, 0, 0) _
  refine mEnds.steps 10 (q' := (28, [some (.ref 1), some (.int 3)], [.int 10], hM0, 0, 0)) rfl ?_
  exact mEnds.ret rfl
set_option maxRecDepth 100000 in
theorem c7_FFv4   : ∃ hs', mEnds [] 20 63 (mentry 63 [.ref 1, .int 4] hC0) (some (.int 10), hs', 0, 0) := by
  refine ⟨hC0, ?_⟩
  refine mEnds.steps 3 (q' := (4, [some (.ref 1), some (.int 4)], [.int 7, .int 0, .int 4], hC0, 0, 0)) rfl ?_
  refine mEnds.call (d := 19) (y' := 105) (as := [.int 4, .int 0, .int 7]) (q' := (7, [some (.ref 1), some (.int 4)], [], hC0, 0, 0)) (v := some (.int 1)) (hs' := hC0) (c' := 0) (s' := 0) rfl rfl ?_ ?_
  · refine mEnds.steps 8 (q' := (15, [some (.int 4), some (.int 0), some (.int 7)], [.int 1], hC0, 0, 0)) rfl ?_
    exact mEnds.ret rfl
  show mEnds [] 20 63 (7, [some (.ref 1), some (.int 4)], [.int 1], hC0, 0, 0) _
  refine mEnds.steps 7 (q' := (23, [some (.ref 1), some (.int 4)], [.int 10], hC0, 0, 0)) rfl ?_
  exact mEnds.ret rfl
set_option maxRecDepth 100000 in
theorem m7_FFv4   : ∃ hs', mEnds [] 20 141 (mentry 141 [.ref 1, .int 4] hM0) (some (.int 10), hs', 0, 0) := by
  refine ⟨hM0, ?_⟩
  refine mEnds.steps 4 (q' := (6, [some (.ref 1), some (.int 4)], [.long 7, .long 0, .long 4], hM0, 0, 0)) rfl ?_
  refine mEnds.call (d := 19) (y' := 111) (as := [.long 4, .long 0, .long 7]) (q' := (9, [some (.ref 1), some (.int 4)], [], hM0, 0, 0)) (v := some (.int 1)) (hs' := hM0) (c' := 0) (s' := 0) rfl rfl ?_ ?_
  · refine mEnds.steps 10 (q' := (18, [some (.long 4), none, some (.long 0), none, some (.long 7), none], [.int 1], hM0, 0, 0)) rfl ?_
    exact mEnds.ret rfl
  show mEnds [] 20 141 (9, [some (.ref 1), some (.int 4)], [.int 1], hM0, 0, 0) _
  refine mEnds.steps 10 (q' := (28, [some (.ref 1), some (.int 4)], [.int 10], hM0, 0, 0)) rfl ?_
  exact mEnds.ret rfl
set_option maxRecDepth 100000 in
theorem c7_FFv5   : ∃ hs', mEnds [] 20 63 (mentry 63 [.ref 1, .int 5] hC0) (some (.int 10), hs', 0, 0) := by
  refine ⟨hC0, ?_⟩
  refine mEnds.steps 3 (q' := (4, [some (.ref 1), some (.int 5)], [.int 7, .int 0, .int 5], hC0, 0, 0)) rfl ?_
  refine mEnds.call (d := 19) (y' := 105) (as := [.int 5, .int 0, .int 7]) (q' := (7, [some (.ref 1), some (.int 5)], [], hC0, 0, 0)) (v := some (.int 1)) (hs' := hC0) (c' := 0) (s' := 0) rfl rfl ?_ ?_
  · refine mEnds.steps 8 (q' := (15, [some (.int 5), some (.int 0), some (.int 7)], [.int 1], hC0, 0, 0)) rfl ?_
    exact mEnds.ret rfl
  show mEnds [] 20 63 (7, [some (.ref 1), some (.int 5)], [.int 1], hC0, 0, 0) _
  refine mEnds.steps 7 (q' := (23, [some (.ref 1), some (.int 5)], [.int 10], hC0, 0, 0)) rfl ?_
  exact mEnds.ret rfl
set_option maxRecDepth 100000 in
theorem m7_FFv5   : ∃ hs', mEnds [] 20 141 (mentry 141 [.ref 1, .int 5] hM0) (some (.int 10), hs', 0, 0) := by
  refine ⟨hM0, ?_⟩
  refine mEnds.steps 4 (q' := (6, [some (.ref 1), some (.int 5)], [.long 7, .long 0, .long 5], hM0, 0, 0)) rfl ?_
  refine mEnds.call (d := 19) (y' := 111) (as := [.long 5, .long 0, .long 7]) (q' := (9, [some (.ref 1), some (.int 5)], [], hM0, 0, 0)) (v := some (.int 1)) (hs' := hM0) (c' := 0) (s' := 0) rfl rfl ?_ ?_
  · refine mEnds.steps 10 (q' := (18, [some (.long 5), none, some (.long 0), none, some (.long 7), none], [.int 1], hM0, 0, 0)) rfl ?_
    exact mEnds.ret rfl
  show mEnds [] 20 141 (9, [some (.ref 1), some (.int 5)], [.int 1], hM0, 0, 0) _
  refine mEnds.steps 10 (q' := (28, [some (.ref 1), some (.int 5)], [.int 10], hM0, 0, 0)) rfl ?_
  exact mEnds.ret rfl
set_option maxRecDepth 100000 in
theorem c7_FFv6   : ∃ hs', mEnds [] 20 63 (mentry 63 [.ref 1, .int 6] hC0) (some (.int 10), hs', 0, 0) := by
  refine ⟨hC0, ?_⟩
  refine mEnds.steps 3 (q' := (4, [some (.ref 1), some (.int 6)], [.int 7, .int 0, .int 6], hC0, 0, 0)) rfl ?_
  refine mEnds.call (d := 19) (y' := 105) (as := [.int 6, .int 0, .int 7]) (q' := (7, [some (.ref 1), some (.int 6)], [], hC0, 0, 0)) (v := some (.int 1)) (hs' := hC0) (c' := 0) (s' := 0) rfl rfl ?_ ?_
  · refine mEnds.steps 8 (q' := (15, [some (.int 6), some (.int 0), some (.int 7)], [.int 1], hC0, 0, 0)) rfl ?_
    exact mEnds.ret rfl
  show mEnds [] 20 63 (7, [some (.ref 1), some (.int 6)], [.int 1], hC0, 0, 0) _
  refine mEnds.steps 7 (q' := (23, [some (.ref 1), some (.int 6)], [.int 10], hC0, 0, 0)) rfl ?_
  exact mEnds.ret rfl
set_option maxRecDepth 100000 in
theorem m7_FFv6   : ∃ hs', mEnds [] 20 141 (mentry 141 [.ref 1, .int 6] hM0) (some (.int 10), hs', 0, 0) := by
  refine ⟨hM0, ?_⟩
  refine mEnds.steps 4 (q' := (6, [some (.ref 1), some (.int 6)], [.long 7, .long 0, .long 6], hM0, 0, 0)) rfl ?_
  refine mEnds.call (d := 19) (y' := 111) (as := [.long 6, .long 0, .long 7]) (q' := (9, [some (.ref 1), some (.int 6)], [], hM0, 0, 0)) (v := some (.int 1)) (hs' := hM0) (c' := 0) (s' := 0) rfl rfl ?_ ?_
  · refine mEnds.steps 10 (q' := (18, [some (.long 6), none, some (.long 0), none, some (.long 7), none], [.int 1], hM0, 0, 0)) rfl ?_
    exact mEnds.ret rfl
  show mEnds [] 20 141 (9, [some (.ref 1), some (.int 6)], [.int 1], hM0, 0, 0) _
  refine mEnds.steps 10 (q' := (28, [some (.ref 1), some (.int 6)], [.int 10], hM0, 0, 0)) rfl ?_
  exact mEnds.ret rfl
set_option maxRecDepth 100000 in
theorem c7_FFv7   : ∃ hs', mEnds [] 20 63 (mentry 63 [.ref 1, .int 7] hC0) (some (.int 10), hs', 0, 0) := by
  refine ⟨hC0, ?_⟩
  refine mEnds.steps 3 (q' := (4, [some (.ref 1), some (.int 7)], [.int 7, .int 0, .int 7], hC0, 0, 0)) rfl ?_
  refine mEnds.call (d := 19) (y' := 105) (as := [.int 7, .int 0, .int 7]) (q' := (7, [some (.ref 1), some (.int 7)], [], hC0, 0, 0)) (v := some (.int 1)) (hs' := hC0) (c' := 0) (s' := 0) rfl rfl ?_ ?_
  · refine mEnds.steps 8 (q' := (15, [some (.int 7), some (.int 0), some (.int 7)], [.int 1], hC0, 0, 0)) rfl ?_
    exact mEnds.ret rfl
  show mEnds [] 20 63 (7, [some (.ref 1), some (.int 7)], [.int 1], hC0, 0, 0) _
  refine mEnds.steps 7 (q' := (23, [some (.ref 1), some (.int 7)], [.int 10], hC0, 0, 0)) rfl ?_
  exact mEnds.ret rfl
set_option maxRecDepth 100000 in
theorem m7_FFv7   : ∃ hs', mEnds [] 20 141 (mentry 141 [.ref 1, .int 7] hM0) (some (.int 10), hs', 0, 0) := by
  refine ⟨hM0, ?_⟩
  refine mEnds.steps 4 (q' := (6, [some (.ref 1), some (.int 7)], [.long 7, .long 0, .long 7], hM0, 0, 0)) rfl ?_
  refine mEnds.call (d := 19) (y' := 111) (as := [.long 7, .long 0, .long 7]) (q' := (9, [some (.ref 1), some (.int 7)], [], hM0, 0, 0)) (v := some (.int 1)) (hs' := hM0) (c' := 0) (s' := 0) rfl rfl ?_ ?_
  · refine mEnds.steps 10 (q' := (18, [some (.long 7), none, some (.long 0), none, some (.long 7), none], [.int 1], hM0, 0, 0)) rfl ?_
    exact mEnds.ret rfl
  show mEnds [] 20 141 (9, [some (.ref 1), some (.int 7)], [.int 1], hM0, 0, 0) _
  refine mEnds.steps 10 (q' := (28, [some (.ref 1), some (.int 7)], [.int 10], hM0, 0, 0)) rfl ?_
  exact mEnds.ret rfl
theorem ok_7 (x1 x2 x3 x4 x5 : Int32) : callOK_7 x1 x2 x3 x4 x5 := by
  cases f0 : decide (x1 < 0) with
  | true =>
    obtain ⟨h1, a1⟩ := c7_T x1 f0
    obtain ⟨h2, a2⟩ := m7_T x1 f0
    exact ⟨_, h1, h2, a1, a2⟩
  | false =>
    cases f1 : decide (7 < x1) with
    | true =>
      obtain ⟨h1, a1⟩ := c7_FT x1 f0 f1
      obtain ⟨h2, a2⟩ := m7_FT x1 f0 f1
      exact ⟨_, h1, h2, a1, a2⟩
    | false =>
      obtain ⟨k2, hk2, ek2⟩ := i32_rng (n := 8) f0 f1 (by decide)
      clear f0 f1
      match k2, hk2, ek2 with
      | 0, _, e =>
        obtain rfl := i32_at (c := 0) e (by decide)
        obtain ⟨h1, a1⟩ := c7_FFv0 
        obtain ⟨h2, a2⟩ := m7_FFv0 
        exact ⟨_, h1, h2, a1, a2⟩
      | 1, _, e =>
        obtain rfl := i32_at (c := 1) e (by decide)
        obtain ⟨h1, a1⟩ := c7_FFv1 
        obtain ⟨h2, a2⟩ := m7_FFv1 
        exact ⟨_, h1, h2, a1, a2⟩
      | 2, _, e =>
        obtain rfl := i32_at (c := 2) e (by decide)
        obtain ⟨h1, a1⟩ := c7_FFv2 
        obtain ⟨h2, a2⟩ := m7_FFv2 
        exact ⟨_, h1, h2, a1, a2⟩
      | 3, _, e =>
        obtain rfl := i32_at (c := 3) e (by decide)
        obtain ⟨h1, a1⟩ := c7_FFv3 
        obtain ⟨h2, a2⟩ := m7_FFv3 
        exact ⟨_, h1, h2, a1, a2⟩
      | 4, _, e =>
        obtain rfl := i32_at (c := 4) e (by decide)
        obtain ⟨h1, a1⟩ := c7_FFv4 
        obtain ⟨h2, a2⟩ := m7_FFv4 
        exact ⟨_, h1, h2, a1, a2⟩
      | 5, _, e =>
        obtain rfl := i32_at (c := 5) e (by decide)
        obtain ⟨h1, a1⟩ := c7_FFv5 
        obtain ⟨h2, a2⟩ := m7_FFv5 
        exact ⟨_, h1, h2, a1, a2⟩
      | 6, _, e =>
        obtain rfl := i32_at (c := 6) e (by decide)
        obtain ⟨h1, a1⟩ := c7_FFv6 
        obtain ⟨h2, a2⟩ := m7_FFv6 
        exact ⟨_, h1, h2, a1, a2⟩
      | 7, _, e =>
        obtain rfl := i32_at (c := 7) e (by decide)
        obtain ⟨h1, a1⟩ := c7_FFv7 
        obtain ⟨h2, a2⟩ := m7_FFv7 
        exact ⟨_, h1, h2, a1, a2⟩
      | k + 8, h, _ => exact absurd h (by omega)
set_option maxRecDepth 100000 in
theorem c8_T (x1 x2 x3 : Int32) (f0 : decide (x1 < 0) = true) : ∃ hs', mEnds [] 20 64 (mentry 64 [.ref 1, .int x1, .int x2, .int x3] hC0) (some (.int (-1)), hs', 0, 0) := by
  refine ⟨hC0, ?_⟩
  refine mEnds.steps 3 (q' := (5, [some (.ref 1), some (.int x1), some (.int x2), some (.int x3), none], [.int x1, .ref 2], hC0, 0, 0)) rfl ?_
  refine mEnds.call (d := 19) (y' := 8) (as := [.ref 2, .int x1]) (q' := (8, [some (.ref 1), some (.int x1), some (.int x2), some (.int x3), none], [], hC0, 0, 0)) (v := some (.int 0)) (hs' := hC0) (c' := 0) (s' := 0) rfl rfl ?_ ?_
  · refine mEnds.steps 1 (q' := (1, [some (.ref 2), some (.int x1)], [.int x1], hC0, 0, 0)) rfl ?_
    refine mEnds.brT (q' := (16, [some (.ref 2), some (.int x1)], [], hC0, 0, 0)) rfl f0 rfl ?_
    refine mEnds.steps 1 (q' := (17, [some (.ref 2), some (.int x1)], [.int 0], hC0, 0, 0)) rfl ?_
    exact mEnds.ret rfl
  show mEnds [] 20 64 (8, [some (.ref 1), some (.int x1), some (.int x2), some (.int x3), none], [.int 0], hC0, 0, 0) _
  refine mEnds.steps 2 (q' := (21, [some (.ref 1), some (.int x1), some (.int x2), some (.int x3), none], [.int (-1)], hC0, 0, 0)) rfl ?_
  exact mEnds.ret rfl
set_option maxRecDepth 100000 in
theorem m8_T (x1 x2 x3 : Int32) (f0 : decide (x1 < 0) = true) : ∃ hs', mEnds [] 20 143 (mentry 143 [.ref 1, .int x1, .int x2, .int x3] hM0) (some (.int (-1)), hs', 0, 0) := by
  refine ⟨hM0, ?_⟩
  refine mEnds.steps 3 (q' := (3, [some (.ref 1), some (.int x1), some (.int x2), some (.int x3)], [.int x1, .ref 1, .ref 1], hM0, 0, 0)) rfl ?_
  refine mEnds.call (d := 19) (y' := 126) (as := [.ref 1, .int x1]) (q' := (6, [some (.ref 1), some (.int x1), some (.int x2), some (.int x3)], [.ref 1], hM0, 0, 0)) (v := some (.int 0)) (hs' := hM0) (c' := 0) (s' := 0) rfl rfl ?_ ?_
  · refine mEnds.steps 8 (q' := (10, [some (.ref 1), some (.int x1)], [.long (-1), .long 0, .long x1.toInt64], hM0, 0, 0)) rfl ?_
    refine mEnds.call (d := 18) (y' := 111) (as := [.long x1.toInt64, .long 0, .long (-1)]) (q' := (13, [some (.ref 1), some (.int x1)], [], hM0, 0, 0)) (v := some (.int 0)) (hs' := hM0) (c' := 0) (s' := 0) rfl rfl ?_ ?_
    · refine mEnds.steps 3 (q' := (3, [some (.long x1.toInt64), none, some (.long 0), none, some (.long (-1)), none], [.int (lg_cmp x1.toInt64 0)], hM0, 0, 0)) rfl ?_
      refine mEnds.brT (q' := (17, [some (.long x1.toInt64), none, some (.long 0), none, some (.long (-1)), none], [], hM0, 0, 0)) rfl (lgc_lt (c := 0) (by decide) f0) rfl ?_
      refine mEnds.steps 1 (q' := (18, [some (.long x1.toInt64), none, some (.long 0), none, some (.long (-1)), none], [.int 0], hM0, 0, 0)) rfl ?_
      exact mEnds.ret rfl
    show mEnds [] 19 126 (13, [some (.ref 1), some (.int x1)], [.int 0], hM0, 0, 0) _
    exact mEnds.ret rfl
  show mEnds [] 20 143 (6, [some (.ref 1), some (.int x1), some (.int x2), some (.int x3)], [.int 0, .ref 1], hM0, 0, 0) _
  refine mEnds.steps 9 (q' := (56, [some (.ref 1), some (.int x1), some (.int x2), some (.int x3)], [.int 0, .int x3, .int ((6 * x2) + x1), .int 0, .ref 1], hM0, 0, 0)) rfl ?_
  refine mEnds.call (d := 19) (y' := 142) (as := [.ref 1, .int 0, .int ((6 * x2) + x1), .int x3, .int 0]) (q' := (59, [some (.ref 1), some (.int x1), some (.int x2), some (.int x3)], [], hM0, 0, 0)) (v := some (.int (-1))) (hs' := hM0) (c' := 0) (s' := 0) rfl rfl ?_ ?_
  · refine mEnds.steps 3 (q' := (5, [some (.ref 1), some (.int 0), some (.int ((6 * x2) + x1)), some (.int x3), some (.int 0), none], [.int (-1)], hM0, 0, 0)) rfl ?_
    exact mEnds.ret rfl
  show mEnds [] 20 143 (59, [some (.ref 1), some (.int x1), some (.int x2), some (.int x3)], [.int (-1)], hM0, 0, 0) _
  exact mEnds.ret rfl
set_option maxRecDepth 100000 in
theorem c8_F (x1 x2 x3 : Int32) (f0 : decide (x1 < 0) = false) : ∃ hs', mEnds [] 20 64 (mentry 64 [.ref 1, .int x1, .int x2, .int x3] hC0) (some (.int (-1)), hs', 0, 0) := by
  refine ⟨hC0, ?_⟩
  refine mEnds.steps 3 (q' := (5, [some (.ref 1), some (.int x1), some (.int x2), some (.int x3), none], [.int x1, .ref 2], hC0, 0, 0)) rfl ?_
  refine mEnds.call (d := 19) (y' := 8) (as := [.ref 2, .int x1]) (q' := (8, [some (.ref 1), some (.int x1), some (.int x2), some (.int x3), none], [], hC0, 0, 0)) (v := some (.int 0)) (hs' := hC0) (c' := 0) (s' := 0) rfl rfl ?_ ?_
  · refine mEnds.steps 1 (q' := (1, [some (.ref 2), some (.int x1)], [.int x1], hC0, 0, 0)) rfl ?_
    refine mEnds.brF (q' := (4, [some (.ref 2), some (.int x1)], [], hC0, 0, 0)) rfl f0 rfl ?_
    refine mEnds.steps 3 (q' := (9, [some (.ref 2), some (.int x1)], [.int 0, .int x1], hC0, 0, 0)) rfl ?_
    refine mEnds.brT (q' := (16, [some (.ref 2), some (.int x1)], [], hC0, 0, 0)) rfl (mtk_ge f0) rfl ?_
    refine mEnds.steps 1 (q' := (17, [some (.ref 2), some (.int x1)], [.int 0], hC0, 0, 0)) rfl ?_
    exact mEnds.ret rfl
  show mEnds [] 20 64 (8, [some (.ref 1), some (.int x1), some (.int x2), some (.int x3), none], [.int 0], hC0, 0, 0) _
  refine mEnds.steps 2 (q' := (21, [some (.ref 1), some (.int x1), some (.int x2), some (.int x3), none], [.int (-1)], hC0, 0, 0)) rfl ?_
  exact mEnds.ret rfl
set_option maxRecDepth 100000 in
theorem m8_F (x1 x2 x3 : Int32) (f0 : decide (x1 < 0) = false) : ∃ hs', mEnds [] 20 143 (mentry 143 [.ref 1, .int x1, .int x2, .int x3] hM0) (some (.int (-1)), hs', 0, 0) := by
  refine ⟨hM0, ?_⟩
  refine mEnds.steps 3 (q' := (3, [some (.ref 1), some (.int x1), some (.int x2), some (.int x3)], [.int x1, .ref 1, .ref 1], hM0, 0, 0)) rfl ?_
  refine mEnds.call (d := 19) (y' := 126) (as := [.ref 1, .int x1]) (q' := (6, [some (.ref 1), some (.int x1), some (.int x2), some (.int x3)], [.ref 1], hM0, 0, 0)) (v := some (.int 0)) (hs' := hM0) (c' := 0) (s' := 0) rfl rfl ?_ ?_
  · refine mEnds.steps 8 (q' := (10, [some (.ref 1), some (.int x1)], [.long (-1), .long 0, .long x1.toInt64], hM0, 0, 0)) rfl ?_
    refine mEnds.call (d := 18) (y' := 111) (as := [.long x1.toInt64, .long 0, .long (-1)]) (q' := (13, [some (.ref 1), some (.int x1)], [], hM0, 0, 0)) (v := some (.int 0)) (hs' := hM0) (c' := 0) (s' := 0) rfl rfl ?_ ?_
    · refine mEnds.steps 3 (q' := (3, [some (.long x1.toInt64), none, some (.long 0), none, some (.long (-1)), none], [.int (lg_cmp x1.toInt64 0)], hM0, 0, 0)) rfl ?_
      refine mEnds.brF (q' := (6, [some (.long x1.toInt64), none, some (.long 0), none, some (.long (-1)), none], [], hM0, 0, 0)) rfl (lgc_lt (c := 0) (by decide) f0) rfl ?_
      refine mEnds.steps 3 (q' := (10, [some (.long x1.toInt64), none, some (.long 0), none, some (.long (-1)), none], [.int (lg_cmp x1.toInt64 (-1))], hM0, 0, 0)) rfl ?_
      refine mEnds.brT (q' := (17, [some (.long x1.toInt64), none, some (.long 0), none, some (.long (-1)), none], [], hM0, 0, 0)) rfl (lgc_gt (c := (-1)) (by decide) (ltF_gtT f0 (by decide))) rfl ?_
      refine mEnds.steps 1 (q' := (18, [some (.long x1.toInt64), none, some (.long 0), none, some (.long (-1)), none], [.int 0], hM0, 0, 0)) rfl ?_
      exact mEnds.ret rfl
    show mEnds [] 19 126 (13, [some (.ref 1), some (.int x1)], [.int 0], hM0, 0, 0) _
    exact mEnds.ret rfl
  show mEnds [] 20 143 (6, [some (.ref 1), some (.int x1), some (.int x2), some (.int x3)], [.int 0, .ref 1], hM0, 0, 0) _
  refine mEnds.steps 9 (q' := (56, [some (.ref 1), some (.int x1), some (.int x2), some (.int x3)], [.int 0, .int x3, .int ((6 * x2) + x1), .int 0, .ref 1], hM0, 0, 0)) rfl ?_
  refine mEnds.call (d := 19) (y' := 142) (as := [.ref 1, .int 0, .int ((6 * x2) + x1), .int x3, .int 0]) (q' := (59, [some (.ref 1), some (.int x1), some (.int x2), some (.int x3)], [], hM0, 0, 0)) (v := some (.int (-1))) (hs' := hM0) (c' := 0) (s' := 0) rfl rfl ?_ ?_
  · refine mEnds.steps 3 (q' := (5, [some (.ref 1), some (.int 0), some (.int ((6 * x2) + x1)), some (.int x3), some (.int 0), none], [.int (-1)], hM0, 0, 0)) rfl ?_
    exact mEnds.ret rfl
  show mEnds [] 20 143 (59, [some (.ref 1), some (.int x1), some (.int x2), some (.int x3)], [.int (-1)], hM0, 0, 0) _
  exact mEnds.ret rfl
theorem ok_8 (x1 x2 x3 x4 x5 : Int32) : callOK_8 x1 x2 x3 x4 x5 := by
  cases f0 : decide (x1 < 0) with
  | true =>
    obtain ⟨h1, a1⟩ := c8_T x1 x2 x3 f0
    obtain ⟨h2, a2⟩ := m8_T x1 x2 x3 f0
    exact ⟨_, h1, h2, a1, a2⟩
  | false =>
    obtain ⟨h1, a1⟩ := c8_F x1 x2 x3 f0
    obtain ⟨h2, a2⟩ := m8_F x1 x2 x3 f0
    exact ⟨_, h1, h2, a1, a2⟩
set_option maxRecDepth 100000 in
theorem c9_T (x1 x2 x3 : Int32) (f0 : decide (x1 < 0) = true) : ∃ hs', mEnds [] 20 65 (mentry 65 [.ref 1, .int x1, .int x2, .int x3] hC0) (some (.int (-1)), hs', 0, 0) := by
  refine ⟨hC0, ?_⟩
  refine mEnds.steps 3 (q' := (5, [some (.ref 1), some (.int x1), some (.int x2), some (.int x3), none], [.int x1, .ref 2], hC0, 0, 0)) rfl ?_
  refine mEnds.call (d := 19) (y' := 8) (as := [.ref 2, .int x1]) (q' := (8, [some (.ref 1), some (.int x1), some (.int x2), some (.int x3), none], [], hC0, 0, 0)) (v := some (.int 0)) (hs' := hC0) (c' := 0) (s' := 0) rfl rfl ?_ ?_
  · refine mEnds.steps 1 (q' := (1, [some (.ref 2), some (.int x1)], [.int x1], hC0, 0, 0)) rfl ?_
    refine mEnds.brT (q' := (16, [some (.ref 2), some (.int x1)], [], hC0, 0, 0)) rfl f0 rfl ?_
    refine mEnds.steps 1 (q' := (17, [some (.ref 2), some (.int x1)], [.int 0], hC0, 0, 0)) rfl ?_
    exact mEnds.ret rfl
  show mEnds [] 20 65 (8, [some (.ref 1), some (.int x1), some (.int x2), some (.int x3), none], [.int 0], hC0, 0, 0) _
  refine mEnds.steps 2 (q' := (31, [some (.ref 1), some (.int x1), some (.int x2), some (.int x3), none], [.int (-1)], hC0, 0, 0)) rfl ?_
  exact mEnds.ret rfl
set_option maxRecDepth 100000 in
theorem m9_T (x1 x2 x3 : Int32) (f0 : decide (x1 < 0) = true) : ∃ hs', mEnds [] 20 144 (mentry 144 [.ref 1, .int x1, .int x2, .int x3] hM0) (some (.int (-1)), hs', 0, 0) := by
  refine ⟨hM0, ?_⟩
  refine mEnds.steps 2 (q' := (2, [some (.ref 1), some (.int x1), some (.int x2), some (.int x3), none], [.int x1, .ref 1], hM0, 0, 0)) rfl ?_
  refine mEnds.call (d := 19) (y' := 126) (as := [.ref 1, .int x1]) (q' := (5, [some (.ref 1), some (.int x1), some (.int x2), some (.int x3), none], [], hM0, 0, 0)) (v := some (.int 0)) (hs' := hM0) (c' := 0) (s' := 0) rfl rfl ?_ ?_
  · refine mEnds.steps 8 (q' := (10, [some (.ref 1), some (.int x1)], [.long (-1), .long 0, .long x1.toInt64], hM0, 0, 0)) rfl ?_
    refine mEnds.call (d := 18) (y' := 111) (as := [.long x1.toInt64, .long 0, .long (-1)]) (q' := (13, [some (.ref 1), some (.int x1)], [], hM0, 0, 0)) (v := some (.int 0)) (hs' := hM0) (c' := 0) (s' := 0) rfl rfl ?_ ?_
    · refine mEnds.steps 3 (q' := (3, [some (.long x1.toInt64), none, some (.long 0), none, some (.long (-1)), none], [.int (lg_cmp x1.toInt64 0)], hM0, 0, 0)) rfl ?_
      refine mEnds.brT (q' := (17, [some (.long x1.toInt64), none, some (.long 0), none, some (.long (-1)), none], [], hM0, 0, 0)) rfl (lgc_lt (c := 0) (by decide) f0) rfl ?_
      refine mEnds.steps 1 (q' := (18, [some (.long x1.toInt64), none, some (.long 0), none, some (.long (-1)), none], [.int 0], hM0, 0, 0)) rfl ?_
      exact mEnds.ret rfl
    show mEnds [] 19 126 (13, [some (.ref 1), some (.int x1)], [.int 0], hM0, 0, 0) _
    exact mEnds.ret rfl
  show mEnds [] 20 144 (5, [some (.ref 1), some (.int x1), some (.int x2), some (.int x3), none], [.int 0], hM0, 0, 0) _
  refine mEnds.steps 2 (q' := (33, [some (.ref 1), some (.int x1), some (.int x2), some (.int x3), none], [.int (-1)], hM0, 0, 0)) rfl ?_
  exact mEnds.ret rfl
set_option maxRecDepth 100000 in
theorem c9_F (x1 x2 x3 : Int32) (f0 : decide (x1 < 0) = false) : ∃ hs', mEnds [] 20 65 (mentry 65 [.ref 1, .int x1, .int x2, .int x3] hC0) (some (.int (-1)), hs', 0, 0) := by
  refine ⟨hC0, ?_⟩
  refine mEnds.steps 3 (q' := (5, [some (.ref 1), some (.int x1), some (.int x2), some (.int x3), none], [.int x1, .ref 2], hC0, 0, 0)) rfl ?_
  refine mEnds.call (d := 19) (y' := 8) (as := [.ref 2, .int x1]) (q' := (8, [some (.ref 1), some (.int x1), some (.int x2), some (.int x3), none], [], hC0, 0, 0)) (v := some (.int 0)) (hs' := hC0) (c' := 0) (s' := 0) rfl rfl ?_ ?_
  · refine mEnds.steps 1 (q' := (1, [some (.ref 2), some (.int x1)], [.int x1], hC0, 0, 0)) rfl ?_
    refine mEnds.brF (q' := (4, [some (.ref 2), some (.int x1)], [], hC0, 0, 0)) rfl f0 rfl ?_
    refine mEnds.steps 3 (q' := (9, [some (.ref 2), some (.int x1)], [.int 0, .int x1], hC0, 0, 0)) rfl ?_
    refine mEnds.brT (q' := (16, [some (.ref 2), some (.int x1)], [], hC0, 0, 0)) rfl (mtk_ge f0) rfl ?_
    refine mEnds.steps 1 (q' := (17, [some (.ref 2), some (.int x1)], [.int 0], hC0, 0, 0)) rfl ?_
    exact mEnds.ret rfl
  show mEnds [] 20 65 (8, [some (.ref 1), some (.int x1), some (.int x2), some (.int x3), none], [.int 0], hC0, 0, 0) _
  refine mEnds.steps 2 (q' := (31, [some (.ref 1), some (.int x1), some (.int x2), some (.int x3), none], [.int (-1)], hC0, 0, 0)) rfl ?_
  exact mEnds.ret rfl
set_option maxRecDepth 100000 in
theorem m9_F (x1 x2 x3 : Int32) (f0 : decide (x1 < 0) = false) : ∃ hs', mEnds [] 20 144 (mentry 144 [.ref 1, .int x1, .int x2, .int x3] hM0) (some (.int (-1)), hs', 0, 0) := by
  refine ⟨hM0, ?_⟩
  refine mEnds.steps 2 (q' := (2, [some (.ref 1), some (.int x1), some (.int x2), some (.int x3), none], [.int x1, .ref 1], hM0, 0, 0)) rfl ?_
  refine mEnds.call (d := 19) (y' := 126) (as := [.ref 1, .int x1]) (q' := (5, [some (.ref 1), some (.int x1), some (.int x2), some (.int x3), none], [], hM0, 0, 0)) (v := some (.int 0)) (hs' := hM0) (c' := 0) (s' := 0) rfl rfl ?_ ?_
  · refine mEnds.steps 8 (q' := (10, [some (.ref 1), some (.int x1)], [.long (-1), .long 0, .long x1.toInt64], hM0, 0, 0)) rfl ?_
    refine mEnds.call (d := 18) (y' := 111) (as := [.long x1.toInt64, .long 0, .long (-1)]) (q' := (13, [some (.ref 1), some (.int x1)], [], hM0, 0, 0)) (v := some (.int 0)) (hs' := hM0) (c' := 0) (s' := 0) rfl rfl ?_ ?_
    · refine mEnds.steps 3 (q' := (3, [some (.long x1.toInt64), none, some (.long 0), none, some (.long (-1)), none], [.int (lg_cmp x1.toInt64 0)], hM0, 0, 0)) rfl ?_
      refine mEnds.brF (q' := (6, [some (.long x1.toInt64), none, some (.long 0), none, some (.long (-1)), none], [], hM0, 0, 0)) rfl (lgc_lt (c := 0) (by decide) f0) rfl ?_
      refine mEnds.steps 3 (q' := (10, [some (.long x1.toInt64), none, some (.long 0), none, some (.long (-1)), none], [.int (lg_cmp x1.toInt64 (-1))], hM0, 0, 0)) rfl ?_
      refine mEnds.brT (q' := (17, [some (.long x1.toInt64), none, some (.long 0), none, some (.long (-1)), none], [], hM0, 0, 0)) rfl (lgc_gt (c := (-1)) (by decide) (ltF_gtT f0 (by decide))) rfl ?_
      refine mEnds.steps 1 (q' := (18, [some (.long x1.toInt64), none, some (.long 0), none, some (.long (-1)), none], [.int 0], hM0, 0, 0)) rfl ?_
      exact mEnds.ret rfl
    show mEnds [] 19 126 (13, [some (.ref 1), some (.int x1)], [.int 0], hM0, 0, 0) _
    exact mEnds.ret rfl
  show mEnds [] 20 144 (5, [some (.ref 1), some (.int x1), some (.int x2), some (.int x3), none], [.int 0], hM0, 0, 0) _
  refine mEnds.steps 2 (q' := (33, [some (.ref 1), some (.int x1), some (.int x2), some (.int x3), none], [.int (-1)], hM0, 0, 0)) rfl ?_
  exact mEnds.ret rfl
theorem ok_9 (x1 x2 x3 x4 x5 : Int32) : callOK_9 x1 x2 x3 x4 x5 := by
  cases f0 : decide (x1 < 0) with
  | true =>
    obtain ⟨h1, a1⟩ := c9_T x1 x2 x3 f0
    obtain ⟨h2, a2⟩ := m9_T x1 x2 x3 f0
    exact ⟨_, h1, h2, a1, a2⟩
  | false =>
    obtain ⟨h1, a1⟩ := c9_F x1 x2 x3 f0
    obtain ⟨h2, a2⟩ := m9_F x1 x2 x3 f0
    exact ⟨_, h1, h2, a1, a2⟩
set_option maxRecDepth 100000 in
theorem c10_T (x1 : Int32) (f0 : decide (x1 < 0) = true) : ∃ hs', mEnds [] 20 66 (mentry 66 [.ref 1, .int x1] hC0) (some (.int (-1)), hs', 0, 0) := by
  refine ⟨hC0, ?_⟩
  refine mEnds.steps 3 (q' := (5, [some (.ref 1), some (.int x1), none], [.int x1, .ref 2], hC0, 0, 0)) rfl ?_
  refine mEnds.call (d := 19) (y' := 8) (as := [.ref 2, .int x1]) (q' := (8, [some (.ref 1), some (.int x1), none], [], hC0, 0, 0)) (v := some (.int 0)) (hs' := hC0) (c' := 0) (s' := 0) rfl rfl ?_ ?_
  · refine mEnds.steps 1 (q' := (1, [some (.ref 2), some (.int x1)], [.int x1], hC0, 0, 0)) rfl ?_
    refine mEnds.brT (q' := (16, [some (.ref 2), some (.int x1)], [], hC0, 0, 0)) rfl f0 rfl ?_
    refine mEnds.steps 1 (q' := (17, [some (.ref 2), some (.int x1)], [.int 0], hC0, 0, 0)) rfl ?_
    exact mEnds.ret rfl
  show mEnds [] 20 66 (8, [some (.ref 1), some (.int x1), none], [.int 0], hC0, 0, 0) _
  refine mEnds.steps 2 (q' := (12, [some (.ref 1), some (.int x1), none], [.int (-1)], hC0, 0, 0)) rfl ?_
  exact mEnds.ret rfl
set_option maxRecDepth 100000 in
theorem m10_T (x1 : Int32) (f0 : decide (x1 < 0) = true) : ∃ hs', mEnds [] 20 146 (mentry 146 [.ref 1, .int x1] hM0) (some (.int (-1)), hs', 0, 0) := by
  refine ⟨hM0, ?_⟩
  refine mEnds.steps 2 (q' := (2, [some (.ref 1), some (.int x1), none], [.int x1, .ref 1], hM0, 0, 0)) rfl ?_
  refine mEnds.call (d := 19) (y' := 126) (as := [.ref 1, .int x1]) (q' := (5, [some (.ref 1), some (.int x1), none], [], hM0, 0, 0)) (v := some (.int 0)) (hs' := hM0) (c' := 0) (s' := 0) rfl rfl ?_ ?_
  · refine mEnds.steps 8 (q' := (10, [some (.ref 1), some (.int x1)], [.long (-1), .long 0, .long x1.toInt64], hM0, 0, 0)) rfl ?_
    refine mEnds.call (d := 18) (y' := 111) (as := [.long x1.toInt64, .long 0, .long (-1)]) (q' := (13, [some (.ref 1), some (.int x1)], [], hM0, 0, 0)) (v := some (.int 0)) (hs' := hM0) (c' := 0) (s' := 0) rfl rfl ?_ ?_
    · refine mEnds.steps 3 (q' := (3, [some (.long x1.toInt64), none, some (.long 0), none, some (.long (-1)), none], [.int (lg_cmp x1.toInt64 0)], hM0, 0, 0)) rfl ?_
      refine mEnds.brT (q' := (17, [some (.long x1.toInt64), none, some (.long 0), none, some (.long (-1)), none], [], hM0, 0, 0)) rfl (lgc_lt (c := 0) (by decide) f0) rfl ?_
      refine mEnds.steps 1 (q' := (18, [some (.long x1.toInt64), none, some (.long 0), none, some (.long (-1)), none], [.int 0], hM0, 0, 0)) rfl ?_
      exact mEnds.ret rfl
    show mEnds [] 19 126 (13, [some (.ref 1), some (.int x1)], [.int 0], hM0, 0, 0) _
    exact mEnds.ret rfl
  show mEnds [] 20 146 (5, [some (.ref 1), some (.int x1), none], [.int 0], hM0, 0, 0) _
  refine mEnds.steps 2 (q' := (9, [some (.ref 1), some (.int x1), none], [.int (-1)], hM0, 0, 0)) rfl ?_
  exact mEnds.ret rfl
set_option maxRecDepth 100000 in
theorem c10_F (x1 : Int32) (f0 : decide (x1 < 0) = false) : ∃ hs', mEnds [] 20 66 (mentry 66 [.ref 1, .int x1] hC0) (some (.int (-1)), hs', 0, 0) := by
  refine ⟨hC0, ?_⟩
  refine mEnds.steps 3 (q' := (5, [some (.ref 1), some (.int x1), none], [.int x1, .ref 2], hC0, 0, 0)) rfl ?_
  refine mEnds.call (d := 19) (y' := 8) (as := [.ref 2, .int x1]) (q' := (8, [some (.ref 1), some (.int x1), none], [], hC0, 0, 0)) (v := some (.int 0)) (hs' := hC0) (c' := 0) (s' := 0) rfl rfl ?_ ?_
  · refine mEnds.steps 1 (q' := (1, [some (.ref 2), some (.int x1)], [.int x1], hC0, 0, 0)) rfl ?_
    refine mEnds.brF (q' := (4, [some (.ref 2), some (.int x1)], [], hC0, 0, 0)) rfl f0 rfl ?_
    refine mEnds.steps 3 (q' := (9, [some (.ref 2), some (.int x1)], [.int 0, .int x1], hC0, 0, 0)) rfl ?_
    refine mEnds.brT (q' := (16, [some (.ref 2), some (.int x1)], [], hC0, 0, 0)) rfl (mtk_ge f0) rfl ?_
    refine mEnds.steps 1 (q' := (17, [some (.ref 2), some (.int x1)], [.int 0], hC0, 0, 0)) rfl ?_
    exact mEnds.ret rfl
  show mEnds [] 20 66 (8, [some (.ref 1), some (.int x1), none], [.int 0], hC0, 0, 0) _
  refine mEnds.steps 2 (q' := (12, [some (.ref 1), some (.int x1), none], [.int (-1)], hC0, 0, 0)) rfl ?_
  exact mEnds.ret rfl
set_option maxRecDepth 100000 in
theorem m10_F (x1 : Int32) (f0 : decide (x1 < 0) = false) : ∃ hs', mEnds [] 20 146 (mentry 146 [.ref 1, .int x1] hM0) (some (.int (-1)), hs', 0, 0) := by
  refine ⟨hM0, ?_⟩
  refine mEnds.steps 2 (q' := (2, [some (.ref 1), some (.int x1), none], [.int x1, .ref 1], hM0, 0, 0)) rfl ?_
  refine mEnds.call (d := 19) (y' := 126) (as := [.ref 1, .int x1]) (q' := (5, [some (.ref 1), some (.int x1), none], [], hM0, 0, 0)) (v := some (.int 0)) (hs' := hM0) (c' := 0) (s' := 0) rfl rfl ?_ ?_
  · refine mEnds.steps 8 (q' := (10, [some (.ref 1), some (.int x1)], [.long (-1), .long 0, .long x1.toInt64], hM0, 0, 0)) rfl ?_
    refine mEnds.call (d := 18) (y' := 111) (as := [.long x1.toInt64, .long 0, .long (-1)]) (q' := (13, [some (.ref 1), some (.int x1)], [], hM0, 0, 0)) (v := some (.int 0)) (hs' := hM0) (c' := 0) (s' := 0) rfl rfl ?_ ?_
    · refine mEnds.steps 3 (q' := (3, [some (.long x1.toInt64), none, some (.long 0), none, some (.long (-1)), none], [.int (lg_cmp x1.toInt64 0)], hM0, 0, 0)) rfl ?_
      refine mEnds.brF (q' := (6, [some (.long x1.toInt64), none, some (.long 0), none, some (.long (-1)), none], [], hM0, 0, 0)) rfl (lgc_lt (c := 0) (by decide) f0) rfl ?_
      refine mEnds.steps 3 (q' := (10, [some (.long x1.toInt64), none, some (.long 0), none, some (.long (-1)), none], [.int (lg_cmp x1.toInt64 (-1))], hM0, 0, 0)) rfl ?_
      refine mEnds.brT (q' := (17, [some (.long x1.toInt64), none, some (.long 0), none, some (.long (-1)), none], [], hM0, 0, 0)) rfl (lgc_gt (c := (-1)) (by decide) (ltF_gtT f0 (by decide))) rfl ?_
      refine mEnds.steps 1 (q' := (18, [some (.long x1.toInt64), none, some (.long 0), none, some (.long (-1)), none], [.int 0], hM0, 0, 0)) rfl ?_
      exact mEnds.ret rfl
    show mEnds [] 19 126 (13, [some (.ref 1), some (.int x1)], [.int 0], hM0, 0, 0) _
    exact mEnds.ret rfl
  show mEnds [] 20 146 (5, [some (.ref 1), some (.int x1), none], [.int 0], hM0, 0, 0) _
  refine mEnds.steps 2 (q' := (9, [some (.ref 1), some (.int x1), none], [.int (-1)], hM0, 0, 0)) rfl ?_
  exact mEnds.ret rfl
theorem ok_10 (x1 x2 x3 x4 x5 : Int32) : callOK_10 x1 x2 x3 x4 x5 := by
  cases f0 : decide (x1 < 0) with
  | true =>
    obtain ⟨h1, a1⟩ := c10_T x1 f0
    obtain ⟨h2, a2⟩ := m10_T x1 f0
    exact ⟨_, h1, h2, a1, a2⟩
  | false =>
    obtain ⟨h1, a1⟩ := c10_F x1 f0
    obtain ⟨h2, a2⟩ := m10_F x1 f0
    exact ⟨_, h1, h2, a1, a2⟩
set_option maxRecDepth 100000 in
theorem c11_T (x1 x2 : Int32) (f0 : decide (x1 < 0) = true) : ∃ hs', mEnds [] 20 67 (mentry 67 [.ref 1, .int x1, .int x2] hC0) (some (.int (-1)), hs', 0, 0) := by
  refine ⟨hC0, ?_⟩
  refine mEnds.steps 4 (q' := (6, [some (.ref 1), some (.int x1), some (.int x2), none], [.int x2, .int x1, .ref 2], hC0, 0, 0)) rfl ?_
  refine mEnds.call (d := 19) (y' := 18) (as := [.ref 2, .int x1, .int x2]) (q' := (9, [some (.ref 1), some (.int x1), some (.int x2), none], [], hC0, 0, 0)) (v := some (.int (-1))) (hs' := hC0) (c' := 0) (s' := 0) rfl rfl ?_ ?_
  · refine mEnds.steps 2 (q' := (2, [some (.ref 2), some (.int x1), some (.int x2)], [.int x1, .ref 2], hC0, 0, 0)) rfl ?_
    refine mEnds.call (d := 18) (y' := 8) (as := [.ref 2, .int x1]) (q' := (5, [some (.ref 2), some (.int x1), some (.int x2)], [], hC0, 0, 0)) (v := some (.int 0)) (hs' := hC0) (c' := 0) (s' := 0) rfl rfl ?_ ?_
    · refine mEnds.steps 1 (q' := (1, [some (.ref 2), some (.int x1)], [.int x1], hC0, 0, 0)) rfl ?_
      refine mEnds.brT (q' := (16, [some (.ref 2), some (.int x1)], [], hC0, 0, 0)) rfl f0 rfl ?_
      refine mEnds.steps 1 (q' := (17, [some (.ref 2), some (.int x1)], [.int 0], hC0, 0, 0)) rfl ?_
      exact mEnds.ret rfl
    show mEnds [] 19 18 (5, [some (.ref 2), some (.int x1), some (.int x2)], [.int 0], hC0, 0, 0) _
    refine mEnds.steps 2 (q' := (19, [some (.ref 2), some (.int x1), some (.int x2)], [.int (-1)], hC0, 0, 0)) rfl ?_
    exact mEnds.ret rfl
  show mEnds [] 20 67 (9, [some (.ref 1), some (.int x1), some (.int x2), none], [.int (-1)], hC0, 0, 0) _
  refine mEnds.steps 5 (q' := (30, [some (.ref 1), some (.int x1), some (.int x2), some (.int (-1))], [.int (-1)], hC0, 0, 0)) rfl ?_
  exact mEnds.ret rfl
set_option maxRecDepth 100000 in
theorem m11_T (x1 x2 : Int32) (f0 : decide (x1 < 0) = true) : ∃ hs', mEnds [] 20 148 (mentry 148 [.ref 1, .int x1, .int x2] hM0) (some (.int (-1)), hs', 0, 0) := by
  refine ⟨hM0, ?_⟩
  refine mEnds.steps 3 (q' := (3, [some (.ref 1), some (.int x1), some (.int x2)], [.int x2, .int x1, .ref 1], hM0, 0, 0)) rfl ?_
  refine mEnds.call (d := 19) (y' := 147) (as := [.ref 1, .int x1, .int x2]) (q' := (6, [some (.ref 1), some (.int x1), some (.int x2)], [], hM0, 0, 0)) (v := some (.int (-1))) (hs' := hM0) (c' := 0) (s' := 0) rfl rfl ?_ ?_
  · refine mEnds.steps 2 (q' := (2, [some (.ref 1), some (.int x1), some (.int x2)], [.int x1, .ref 1], hM0, 0, 0)) rfl ?_
    refine mEnds.call (d := 18) (y' := 126) (as := [.ref 1, .int x1]) (q' := (5, [some (.ref 1), some (.int x1), some (.int x2)], [], hM0, 0, 0)) (v := some (.int 0)) (hs' := hM0) (c' := 0) (s' := 0) rfl rfl ?_ ?_
    · refine mEnds.steps 8 (q' := (10, [some (.ref 1), some (.int x1)], [.long (-1), .long 0, .long x1.toInt64], hM0, 0, 0)) rfl ?_
      refine mEnds.call (d := 17) (y' := 111) (as := [.long x1.toInt64, .long 0, .long (-1)]) (q' := (13, [some (.ref 1), some (.int x1)], [], hM0, 0, 0)) (v := some (.int 0)) (hs' := hM0) (c' := 0) (s' := 0) rfl rfl ?_ ?_
      · refine mEnds.steps 3 (q' := (3, [some (.long x1.toInt64), none, some (.long 0), none, some (.long (-1)), none], [.int (lg_cmp x1.toInt64 0)], hM0, 0, 0)) rfl ?_
        refine mEnds.brT (q' := (17, [some (.long x1.toInt64), none, some (.long 0), none, some (.long (-1)), none], [], hM0, 0, 0)) rfl (lgc_lt (c := 0) (by decide) f0) rfl ?_
        refine mEnds.steps 1 (q' := (18, [some (.long x1.toInt64), none, some (.long 0), none, some (.long (-1)), none], [.int 0], hM0, 0, 0)) rfl ?_
        exact mEnds.ret rfl
      show mEnds [] 18 126 (13, [some (.ref 1), some (.int x1)], [.int 0], hM0, 0, 0) _
      exact mEnds.ret rfl
    show mEnds [] 19 147 (5, [some (.ref 1), some (.int x1), some (.int x2)], [.int 0], hM0, 0, 0) _
    refine mEnds.steps 2 (q' := (21, [some (.ref 1), some (.int x1), some (.int x2)], [.int (-1)], hM0, 0, 0)) rfl ?_
    exact mEnds.ret rfl
  show mEnds [] 20 148 (6, [some (.ref 1), some (.int x1), some (.int x2)], [.int (-1)], hM0, 0, 0) _
  exact mEnds.ret rfl
set_option maxRecDepth 100000 in
theorem c11_F (x1 x2 : Int32) (f0 : decide (x1 < 0) = false) : ∃ hs', mEnds [] 20 67 (mentry 67 [.ref 1, .int x1, .int x2] hC0) (some (.int (-1)), hs', 0, 0) := by
  refine ⟨hC0, ?_⟩
  refine mEnds.steps 4 (q' := (6, [some (.ref 1), some (.int x1), some (.int x2), none], [.int x2, .int x1, .ref 2], hC0, 0, 0)) rfl ?_
  refine mEnds.call (d := 19) (y' := 18) (as := [.ref 2, .int x1, .int x2]) (q' := (9, [some (.ref 1), some (.int x1), some (.int x2), none], [], hC0, 0, 0)) (v := some (.int (-1))) (hs' := hC0) (c' := 0) (s' := 0) rfl rfl ?_ ?_
  · refine mEnds.steps 2 (q' := (2, [some (.ref 2), some (.int x1), some (.int x2)], [.int x1, .ref 2], hC0, 0, 0)) rfl ?_
    refine mEnds.call (d := 18) (y' := 8) (as := [.ref 2, .int x1]) (q' := (5, [some (.ref 2), some (.int x1), some (.int x2)], [], hC0, 0, 0)) (v := some (.int 0)) (hs' := hC0) (c' := 0) (s' := 0) rfl rfl ?_ ?_
    · refine mEnds.steps 1 (q' := (1, [some (.ref 2), some (.int x1)], [.int x1], hC0, 0, 0)) rfl ?_
      refine mEnds.brF (q' := (4, [some (.ref 2), some (.int x1)], [], hC0, 0, 0)) rfl f0 rfl ?_
      refine mEnds.steps 3 (q' := (9, [some (.ref 2), some (.int x1)], [.int 0, .int x1], hC0, 0, 0)) rfl ?_
      refine mEnds.brT (q' := (16, [some (.ref 2), some (.int x1)], [], hC0, 0, 0)) rfl (mtk_ge f0) rfl ?_
      refine mEnds.steps 1 (q' := (17, [some (.ref 2), some (.int x1)], [.int 0], hC0, 0, 0)) rfl ?_
      exact mEnds.ret rfl
    show mEnds [] 19 18 (5, [some (.ref 2), some (.int x1), some (.int x2)], [.int 0], hC0, 0, 0) _
    refine mEnds.steps 2 (q' := (19, [some (.ref 2), some (.int x1), some (.int x2)], [.int (-1)], hC0, 0, 0)) rfl ?_
    exact mEnds.ret rfl
  show mEnds [] 20 67 (9, [some (.ref 1), some (.int x1), some (.int x2), none], [.int (-1)], hC0, 0, 0) _
  refine mEnds.steps 5 (q' := (30, [some (.ref 1), some (.int x1), some (.int x2), some (.int (-1))], [.int (-1)], hC0, 0, 0)) rfl ?_
  exact mEnds.ret rfl
set_option maxRecDepth 100000 in
theorem m11_F (x1 x2 : Int32) (f0 : decide (x1 < 0) = false) : ∃ hs', mEnds [] 20 148 (mentry 148 [.ref 1, .int x1, .int x2] hM0) (some (.int (-1)), hs', 0, 0) := by
  refine ⟨hM0, ?_⟩
  refine mEnds.steps 3 (q' := (3, [some (.ref 1), some (.int x1), some (.int x2)], [.int x2, .int x1, .ref 1], hM0, 0, 0)) rfl ?_
  refine mEnds.call (d := 19) (y' := 147) (as := [.ref 1, .int x1, .int x2]) (q' := (6, [some (.ref 1), some (.int x1), some (.int x2)], [], hM0, 0, 0)) (v := some (.int (-1))) (hs' := hM0) (c' := 0) (s' := 0) rfl rfl ?_ ?_
  · refine mEnds.steps 2 (q' := (2, [some (.ref 1), some (.int x1), some (.int x2)], [.int x1, .ref 1], hM0, 0, 0)) rfl ?_
    refine mEnds.call (d := 18) (y' := 126) (as := [.ref 1, .int x1]) (q' := (5, [some (.ref 1), some (.int x1), some (.int x2)], [], hM0, 0, 0)) (v := some (.int 0)) (hs' := hM0) (c' := 0) (s' := 0) rfl rfl ?_ ?_
    · refine mEnds.steps 8 (q' := (10, [some (.ref 1), some (.int x1)], [.long (-1), .long 0, .long x1.toInt64], hM0, 0, 0)) rfl ?_
      refine mEnds.call (d := 17) (y' := 111) (as := [.long x1.toInt64, .long 0, .long (-1)]) (q' := (13, [some (.ref 1), some (.int x1)], [], hM0, 0, 0)) (v := some (.int 0)) (hs' := hM0) (c' := 0) (s' := 0) rfl rfl ?_ ?_
      · refine mEnds.steps 3 (q' := (3, [some (.long x1.toInt64), none, some (.long 0), none, some (.long (-1)), none], [.int (lg_cmp x1.toInt64 0)], hM0, 0, 0)) rfl ?_
        refine mEnds.brF (q' := (6, [some (.long x1.toInt64), none, some (.long 0), none, some (.long (-1)), none], [], hM0, 0, 0)) rfl (lgc_lt (c := 0) (by decide) f0) rfl ?_
        refine mEnds.steps 3 (q' := (10, [some (.long x1.toInt64), none, some (.long 0), none, some (.long (-1)), none], [.int (lg_cmp x1.toInt64 (-1))], hM0, 0, 0)) rfl ?_
        refine mEnds.brT (q' := (17, [some (.long x1.toInt64), none, some (.long 0), none, some (.long (-1)), none], [], hM0, 0, 0)) rfl (lgc_gt (c := (-1)) (by decide) (ltF_gtT f0 (by decide))) rfl ?_
        refine mEnds.steps 1 (q' := (18, [some (.long x1.toInt64), none, some (.long 0), none, some (.long (-1)), none], [.int 0], hM0, 0, 0)) rfl ?_
        exact mEnds.ret rfl
      show mEnds [] 18 126 (13, [some (.ref 1), some (.int x1)], [.int 0], hM0, 0, 0) _
      exact mEnds.ret rfl
    show mEnds [] 19 147 (5, [some (.ref 1), some (.int x1), some (.int x2)], [.int 0], hM0, 0, 0) _
    refine mEnds.steps 2 (q' := (21, [some (.ref 1), some (.int x1), some (.int x2)], [.int (-1)], hM0, 0, 0)) rfl ?_
    exact mEnds.ret rfl
  show mEnds [] 20 148 (6, [some (.ref 1), some (.int x1), some (.int x2)], [.int (-1)], hM0, 0, 0) _
  exact mEnds.ret rfl
theorem ok_11 (x1 x2 x3 x4 x5 : Int32) : callOK_11 x1 x2 x3 x4 x5 := by
  cases f0 : decide (x1 < 0) with
  | true =>
    obtain ⟨h1, a1⟩ := c11_T x1 x2 f0
    obtain ⟨h2, a2⟩ := m11_T x1 x2 f0
    exact ⟨_, h1, h2, a1, a2⟩
  | false =>
    obtain ⟨h1, a1⟩ := c11_F x1 x2 f0
    obtain ⟨h2, a2⟩ := m11_F x1 x2 f0
    exact ⟨_, h1, h2, a1, a2⟩
set_option maxRecDepth 100000 in
theorem c12_T (x1 x2 : Int32) (f0 : decide (x1 < 0) = true) : ∃ hs', mEnds [] 20 68 (mentry 68 [.ref 1, .int x1, .int x2] hC0) (some (.int (-1)), hs', 0, 0) := by
  refine ⟨hC0, ?_⟩
  refine mEnds.steps 3 (q' := (5, [some (.ref 1), some (.int x1), some (.int x2)], [.int x1, .ref 2], hC0, 0, 0)) rfl ?_
  refine mEnds.call (d := 19) (y' := 9) (as := [.ref 2, .int x1]) (q' := (8, [some (.ref 1), some (.int x1), some (.int x2)], [], hC0, 0, 0)) (v := some (.int 0)) (hs' := hC0) (c' := 0) (s' := 0) rfl rfl ?_ ?_
  · refine mEnds.steps 1 (q' := (1, [some (.ref 2), some (.int x1)], [.int x1], hC0, 0, 0)) rfl ?_
    refine mEnds.brT (q' := (18, [some (.ref 2), some (.int x1)], [], hC0, 0, 0)) rfl f0 rfl ?_
    refine mEnds.steps 1 (q' := (19, [some (.ref 2), some (.int x1)], [.int 0], hC0, 0, 0)) rfl ?_
    exact mEnds.ret rfl
  show mEnds [] 20 68 (8, [some (.ref 1), some (.int x1), some (.int x2)], [.int 0], hC0, 0, 0) _
  refine mEnds.steps 2 (q' := (22, [some (.ref 1), some (.int x1), some (.int x2)], [.int (-1)], hC0, 0, 0)) rfl ?_
  exact mEnds.ret rfl
set_option maxRecDepth 100000 in
theorem m12_T (x1 x2 : Int32) (f0 : decide (x1 < 0) = true) : ∃ hs', mEnds [] 20 149 (mentry 149 [.ref 1, .int x1, .int x2] hM0) (some (.int (-1)), hs', 0, 0) := by
  refine ⟨hM0, ?_⟩
  refine mEnds.steps 3 (q' := (3, [some (.ref 1), some (.int x1), some (.int x2)], [.int x1, .ref 1, .ref 1], hM0, 0, 0)) rfl ?_
  refine mEnds.call (d := 19) (y' := 127) (as := [.ref 1, .int x1]) (q' := (6, [some (.ref 1), some (.int x1), some (.int x2)], [.ref 1], hM0, 0, 0)) (v := some (.int 0)) (hs' := hM0) (c' := 0) (s' := 0) rfl rfl ?_ ?_
  · refine mEnds.steps 8 (q' := (10, [some (.ref 1), some (.int x1)], [.long (-2), .long 0, .long x1.toInt64], hM0, 0, 0)) rfl ?_
    refine mEnds.call (d := 18) (y' := 111) (as := [.long x1.toInt64, .long 0, .long (-2)]) (q' := (13, [some (.ref 1), some (.int x1)], [], hM0, 0, 0)) (v := some (.int 0)) (hs' := hM0) (c' := 0) (s' := 0) rfl rfl ?_ ?_
    · refine mEnds.steps 3 (q' := (3, [some (.long x1.toInt64), none, some (.long 0), none, some (.long (-2)), none], [.int (lg_cmp x1.toInt64 0)], hM0, 0, 0)) rfl ?_
      refine mEnds.brT (q' := (17, [some (.long x1.toInt64), none, some (.long 0), none, some (.long (-2)), none], [], hM0, 0, 0)) rfl (lgc_lt (c := 0) (by decide) f0) rfl ?_
      refine mEnds.steps 1 (q' := (18, [some (.long x1.toInt64), none, some (.long 0), none, some (.long (-2)), none], [.int 0], hM0, 0, 0)) rfl ?_
      exact mEnds.ret rfl
    show mEnds [] 19 127 (13, [some (.ref 1), some (.int x1)], [.int 0], hM0, 0, 0) _
    exact mEnds.ret rfl
  show mEnds [] 20 149 (6, [some (.ref 1), some (.int x1), some (.int x2)], [.int 0, .ref 1], hM0, 0, 0) _
  refine mEnds.steps 7 (q' := (32, [some (.ref 1), some (.int x1), some (.int x2)], [.int 2, .int x2, .int (36 + x1), .int 0, .ref 1], hM0, 0, 0)) rfl ?_
  refine mEnds.call (d := 19) (y' := 142) (as := [.ref 1, .int 0, .int (36 + x1), .int x2, .int 2]) (q' := (35, [some (.ref 1), some (.int x1), some (.int x2)], [], hM0, 0, 0)) (v := some (.int (-1))) (hs' := hM0) (c' := 0) (s' := 0) rfl rfl ?_ ?_
  · refine mEnds.steps 3 (q' := (5, [some (.ref 1), some (.int 0), some (.int (36 + x1)), some (.int x2), some (.int 2), none], [.int (-1)], hM0, 0, 0)) rfl ?_
    exact mEnds.ret rfl
  show mEnds [] 20 149 (35, [some (.ref 1), some (.int x1), some (.int x2)], [.int (-1)], hM0, 0, 0) _
  exact mEnds.ret rfl
set_option maxRecDepth 100000 in
theorem c12_F (x1 x2 : Int32) (f0 : decide (x1 < 0) = false) : ∃ hs', mEnds [] 20 68 (mentry 68 [.ref 1, .int x1, .int x2] hC0) (some (.int (-1)), hs', 0, 0) := by
  refine ⟨hC0, ?_⟩
  refine mEnds.steps 3 (q' := (5, [some (.ref 1), some (.int x1), some (.int x2)], [.int x1, .ref 2], hC0, 0, 0)) rfl ?_
  refine mEnds.call (d := 19) (y' := 9) (as := [.ref 2, .int x1]) (q' := (8, [some (.ref 1), some (.int x1), some (.int x2)], [], hC0, 0, 0)) (v := some (.int 0)) (hs' := hC0) (c' := 0) (s' := 0) rfl rfl ?_ ?_
  · refine mEnds.steps 1 (q' := (1, [some (.ref 2), some (.int x1)], [.int x1], hC0, 0, 0)) rfl ?_
    refine mEnds.brF (q' := (4, [some (.ref 2), some (.int x1)], [], hC0, 0, 0)) rfl f0 rfl ?_
    refine mEnds.steps 5 (q' := (11, [some (.ref 2), some (.int x1)], [.int (-1), .int x1], hC0, 0, 0)) rfl ?_
    refine mEnds.brT (q' := (18, [some (.ref 2), some (.int x1)], [], hC0, 0, 0)) rfl (mtk_ge (lt_F f0 (by decide))) rfl ?_
    refine mEnds.steps 1 (q' := (19, [some (.ref 2), some (.int x1)], [.int 0], hC0, 0, 0)) rfl ?_
    exact mEnds.ret rfl
  show mEnds [] 20 68 (8, [some (.ref 1), some (.int x1), some (.int x2)], [.int 0], hC0, 0, 0) _
  refine mEnds.steps 2 (q' := (22, [some (.ref 1), some (.int x1), some (.int x2)], [.int (-1)], hC0, 0, 0)) rfl ?_
  exact mEnds.ret rfl
set_option maxRecDepth 100000 in
theorem m12_F (x1 x2 : Int32) (f0 : decide (x1 < 0) = false) : ∃ hs', mEnds [] 20 149 (mentry 149 [.ref 1, .int x1, .int x2] hM0) (some (.int (-1)), hs', 0, 0) := by
  refine ⟨hM0, ?_⟩
  refine mEnds.steps 3 (q' := (3, [some (.ref 1), some (.int x1), some (.int x2)], [.int x1, .ref 1, .ref 1], hM0, 0, 0)) rfl ?_
  refine mEnds.call (d := 19) (y' := 127) (as := [.ref 1, .int x1]) (q' := (6, [some (.ref 1), some (.int x1), some (.int x2)], [.ref 1], hM0, 0, 0)) (v := some (.int 0)) (hs' := hM0) (c' := 0) (s' := 0) rfl rfl ?_ ?_
  · refine mEnds.steps 8 (q' := (10, [some (.ref 1), some (.int x1)], [.long (-2), .long 0, .long x1.toInt64], hM0, 0, 0)) rfl ?_
    refine mEnds.call (d := 18) (y' := 111) (as := [.long x1.toInt64, .long 0, .long (-2)]) (q' := (13, [some (.ref 1), some (.int x1)], [], hM0, 0, 0)) (v := some (.int 0)) (hs' := hM0) (c' := 0) (s' := 0) rfl rfl ?_ ?_
    · refine mEnds.steps 3 (q' := (3, [some (.long x1.toInt64), none, some (.long 0), none, some (.long (-2)), none], [.int (lg_cmp x1.toInt64 0)], hM0, 0, 0)) rfl ?_
      refine mEnds.brF (q' := (6, [some (.long x1.toInt64), none, some (.long 0), none, some (.long (-2)), none], [], hM0, 0, 0)) rfl (lgc_lt (c := 0) (by decide) f0) rfl ?_
      refine mEnds.steps 3 (q' := (10, [some (.long x1.toInt64), none, some (.long 0), none, some (.long (-2)), none], [.int (lg_cmp x1.toInt64 (-2))], hM0, 0, 0)) rfl ?_
      refine mEnds.brT (q' := (17, [some (.long x1.toInt64), none, some (.long 0), none, some (.long (-2)), none], [], hM0, 0, 0)) rfl (lgc_gt (c := (-2)) (by decide) (ltF_gtT f0 (by decide))) rfl ?_
      refine mEnds.steps 1 (q' := (18, [some (.long x1.toInt64), none, some (.long 0), none, some (.long (-2)), none], [.int 0], hM0, 0, 0)) rfl ?_
      exact mEnds.ret rfl
    show mEnds [] 19 127 (13, [some (.ref 1), some (.int x1)], [.int 0], hM0, 0, 0) _
    exact mEnds.ret rfl
  show mEnds [] 20 149 (6, [some (.ref 1), some (.int x1), some (.int x2)], [.int 0, .ref 1], hM0, 0, 0) _
  refine mEnds.steps 7 (q' := (32, [some (.ref 1), some (.int x1), some (.int x2)], [.int 2, .int x2, .int (36 + x1), .int 0, .ref 1], hM0, 0, 0)) rfl ?_
  refine mEnds.call (d := 19) (y' := 142) (as := [.ref 1, .int 0, .int (36 + x1), .int x2, .int 2]) (q' := (35, [some (.ref 1), some (.int x1), some (.int x2)], [], hM0, 0, 0)) (v := some (.int (-1))) (hs' := hM0) (c' := 0) (s' := 0) rfl rfl ?_ ?_
  · refine mEnds.steps 3 (q' := (5, [some (.ref 1), some (.int 0), some (.int (36 + x1)), some (.int x2), some (.int 2), none], [.int (-1)], hM0, 0, 0)) rfl ?_
    exact mEnds.ret rfl
  show mEnds [] 20 149 (35, [some (.ref 1), some (.int x1), some (.int x2)], [.int (-1)], hM0, 0, 0) _
  exact mEnds.ret rfl
theorem ok_12 (x1 x2 x3 x4 x5 : Int32) : callOK_12 x1 x2 x3 x4 x5 := by
  cases f0 : decide (x1 < 0) with
  | true =>
    obtain ⟨h1, a1⟩ := c12_T x1 x2 f0
    obtain ⟨h2, a2⟩ := m12_T x1 x2 f0
    exact ⟨_, h1, h2, a1, a2⟩
  | false =>
    obtain ⟨h1, a1⟩ := c12_F x1 x2 f0
    obtain ⟨h2, a2⟩ := m12_F x1 x2 f0
    exact ⟨_, h1, h2, a1, a2⟩
