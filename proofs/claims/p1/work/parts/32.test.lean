theorem c6_a (x1 : Int32) (f0 : decide (x1 < 0) = true) : ∃ hs', mEnds [] 20 62 (mentry 62 [.ref 1, .int x1] hC0) (some (.int (-1)), hs', 0, 0) := by
  refine ⟨hC0, ?_⟩
  refine mEnds.steps 3 (q' := (5, [some (.ref 1), some (.int x1)], [.int x1, .ref 2], hC0, 0, 0)) rfl ?_
  refine mEnds.call (d := 19) (y' := 9) (as := [.ref 2, .int x1]) (q' := (8, [some (.ref 1), some (.int x1)], [], hC0, 0, 0)) (v := some (.int 0)) (hs' := hC0) (c' := 0) (s' := 0) rfl rfl ?_ ?_
  · refine mEnds.steps 1 (q' := (1, [some (.ref 2), some (.int x1)], [.int x1], hC0, 0, 0)) rfl ?_
    refine mEnds.brT (q' := (18, [some (.ref 2), some (.int x1)], [], hC0, 0, 0)) rfl f0 rfl ?_
    refine mEnds.steps 1 (q' := (19, [some (.ref 2), some (.int x1)], [.int 0], hC0, 0, 0)) rfl ?_
    exact mEnds.ret rfl
  show mEnds [] 20 62 (8, [some (.ref 1), some (.int x1)], [.int 0], hC0, 0, 0) _
  refine mEnds.steps 2 (q' := (24, [some (.ref 1), some (.int x1)], [.int (-1)], hC0, 0, 0)) rfl ?_
  exact mEnds.ret rfl
theorem m6_a (x1 : Int32) (f0 : decide (x1 < 0) = true) : ∃ hs', mEnds [] 20 140 (mentry 140 [.ref 1, .int x1] hM0) (some (.int (-1)), hs', 0, 0) := by
  refine ⟨hM0, ?_⟩
  refine mEnds.steps 2 (q' := (2, [some (.ref 1), some (.int x1)], [.int x1, .ref 1], hM0, 0, 0)) rfl ?_
  refine mEnds.call (d := 19) (y' := 127) (as := [.ref 1, .int x1]) (q' := (5, [some (.ref 1), some (.int x1)], [], hM0, 0, 0)) (v := some (.int 0)) (hs' := hM0) (c' := 0) (s' := 0) rfl rfl ?_ ?_
  · refine mEnds.steps 8 (q' := (10, [some (.ref 1), some (.int x1)], [.long (-2), .long 0, .long x1.toInt64], hM0, 0, 0)) rfl ?_
    refine mEnds.call (d := 18) (y' := 111) (as := [.long x1.toInt64, .long 0, .long (-2)]) (q' := (13, [some (.ref 1), some (.int x1)], [], hM0, 0, 0)) (v := some (.int 0)) (hs' := hM0) (c' := 0) (s' := 0) rfl rfl ?_ ?_
    · refine mEnds.steps 3 (q' := (3, [some (.long x1.toInt64), none, some (.long 0), none, some (.long (-2)), none], [.int (lg_cmp x1.toInt64 0)], hM0, 0, 0)) rfl ?_
      refine mEnds.brT (q' := (17, [some (.long x1.toInt64), none, some (.long 0), none, some (.long (-2)), none], [], hM0, 0, 0)) rfl (lgc_lt (c := 0) (by decide) f0) rfl ?_
      refine mEnds.steps 1 (q' := (18, [some (.long x1.toInt64), none, some (.long 0), none, some (.long (-2)), none], [.int 0], hM0, 0, 0)) rfl ?_
      exact mEnds.ret rfl
    show mEnds [] 19 127 (13, [some (.ref 1), some (.int x1)], [.int 0], hM0, 0, 0) _
    exact mEnds.ret rfl
  show mEnds [] 20 140 (5, [some (.ref 1), some (.int x1)], [.int 0], hM0, 0, 0) _
  refine mEnds.steps 2 (q' := (23, [some (.ref 1), some (.int x1)], [.int (-1)], hM0, 0, 0)) rfl ?_
  exact mEnds.ret rfl
theorem c6_b (x1 : Int32) (f0 : decide (x1 < 0) = false) : ∃ hs', mEnds [] 20 62 (mentry 62 [.ref 1, .int x1] hC0) (some (.int (-1)), hs', 0, 0) := by
  refine ⟨hC0, ?_⟩
  refine mEnds.steps 3 (q' := (5, [some (.ref 1), some (.int x1)], [.int x1, .ref 2], hC0, 0, 0)) rfl ?_
  refine mEnds.call (d := 19) (y' := 9) (as := [.ref 2, .int x1]) (q' := (8, [some (.ref 1), some (.int x1)], [], hC0, 0, 0)) (v := some (.int 0)) (hs' := hC0) (c' := 0) (s' := 0) rfl rfl ?_ ?_
  · refine mEnds.steps 1 (q' := (1, [some (.ref 2), some (.int x1)], [.int x1], hC0, 0, 0)) rfl ?_
    refine mEnds.brF (q' := (4, [some (.ref 2), some (.int x1)], [], hC0, 0, 0)) rfl f0 rfl ?_
    refine mEnds.steps 5 (q' := (11, [some (.ref 2), some (.int x1)], [.int (-1), .int x1], hC0, 0, 0)) rfl ?_
    refine mEnds.brT (q' := (18, [some (.ref 2), some (.int x1)], [], hC0, 0, 0)) rfl (mtk_ge (lt_F f0 (by decide))) rfl ?_
    refine mEnds.steps 1 (q' := (19, [some (.ref 2), some (.int x1)], [.int 0], hC0, 0, 0)) rfl ?_
    exact mEnds.ret rfl
  show mEnds [] 20 62 (8, [some (.ref 1), some (.int x1)], [.int 0], hC0, 0, 0) _
  refine mEnds.steps 2 (q' := (24, [some (.ref 1), some (.int x1)], [.int (-1)], hC0, 0, 0)) rfl ?_
  exact mEnds.ret rfl
theorem m6_b (x1 : Int32) (f0 : decide (x1 < 0) = false) : ∃ hs', mEnds [] 20 140 (mentry 140 [.ref 1, .int x1] hM0) (some (.int (-1)), hs', 0, 0) := by
  refine ⟨hM0, ?_⟩
  refine mEnds.steps 2 (q' := (2, [some (.ref 1), some (.int x1)], [.int x1, .ref 1], hM0, 0, 0)) rfl ?_
  refine mEnds.call (d := 19) (y' := 127) (as := [.ref 1, .int x1]) (q' := (5, [some (.ref 1), some (.int x1)], [], hM0, 0, 0)) (v := some (.int 0)) (hs' := hM0) (c' := 0) (s' := 0) rfl rfl ?_ ?_
  · refine mEnds.steps 8 (q' := (10, [some (.ref 1), some (.int x1)], [.long (-2), .long 0, .long x1.toInt64], hM0, 0, 0)) rfl ?_
    refine mEnds.call (d := 18) (y' := 111) (as := [.long x1.toInt64, .long 0, .long (-2)]) (q' := (13, [some (.ref 1), some (.int x1)], [], hM0, 0, 0)) (v := some (.int 0)) (hs' := hM0) (c' := 0) (s' := 0) rfl rfl ?_ ?_
    · refine mEnds.steps 3 (q' := (3, [some (.long x1.toInt64), none, some (.long 0), none, some (.long (-2)), none], [.int (lg_cmp x1.toInt64 0)], hM0, 0, 0)) rfl ?_
      refine mEnds.brF (q' := (6, [some (.long x1.toInt64), none, some (.long 0), none, some (.long (-2)), none], [], hM0, 0, 0)) rfl (lgc_lt (c := 0) (by decide) f0) rfl ?_
      refine mEnds.steps 3 (q' := (10, [some (.long x1.toInt64), none, some (.long 0), none, some (.long (-2)), none], [.int (lg_cmp x1.toInt64 (-2))], hM0, 0, 0)) rfl ?_
      refine mEnds.brT (q' := (17, [some (.long x1.toInt64), none, some (.long 0), none, some (.long (-2)), none], [], hM0, 0, 0)) rfl (lgc_gt (c := (-2)) (by decide) (ltF_gtT f0 (by decide))) rfl ?_
      refine mEnds.steps 1 (q' := (18, [some (.long x1.toInt64), none, some (.long 0), none, some (.long (-2)), none], [.int 0], hM0, 0, 0)) rfl ?_
      exact mEnds.ret rfl
    show mEnds [] 19 127 (13, [some (.ref 1), some (.int x1)], [.int 0], hM0, 0, 0) _
    exact mEnds.ret rfl
  show mEnds [] 20 140 (5, [some (.ref 1), some (.int x1)], [.int 0], hM0, 0, 0) _
  refine mEnds.steps 2 (q' := (23, [some (.ref 1), some (.int x1)], [.int (-1)], hM0, 0, 0)) rfl ?_
  exact mEnds.ret rfl
