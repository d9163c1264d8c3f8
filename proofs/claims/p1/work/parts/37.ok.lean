/-! hours, runs, swap, seal, text, again on new objects -/
theorem z0_lt {x c : Int32} {b : Bool} (h : decide (x < c) = b) : decide (0 + x < c) = b := by rw [Int32.zero_add]; exact h
theorem z0_gt {x c : Int32} {b : Bool} (h : decide (c < x) = b) : decide (c < 0 + x) = b := by rw [Int32.zero_add]; exact h
theorem z0_eq {x c : Int32} {b : Bool} (h : decide (x = c) = b) : decide (0 + x = c) = b := by rw [Int32.zero_add]; exact h
theorem i32_nI {x : Int32} {N : Nat} (h : x.toInt = (0 : Int32).toInt + N) (hN : N < 2 ^ 31) : x = nI N := by
  refine Int32.toInt_inj.mp ?_
  rw [nI_toInt hN, h]
  show (0 : Int) + N = N
  omega
set_option maxRecDepth 100000 in
theorem ok_2 (x1 x2 x3 x4 x5 : Int32) : callOK_2 x1 x2 x3 x4 x5 := by
  obtain ⟨h1, a1⟩ := ansI_ok (n := 3000) (d := 20) (y := 57) (q := mentry 57 (.ref 1 :: []) hC0) (v := .int 0) (by decide +kernel)
  obtain ⟨h2, a2⟩ := ansI_ok (n := 3000) (d := 20) (y := 124) (q := mentry 124 (.ref 1 :: []) hM0) (v := .int 0) (by decide +kernel)
  exact ⟨_, h1, h2, a1, a2⟩
set_option maxRecDepth 100000 in
theorem ok_18 (x1 x2 x3 x4 x5 : Int32) : callOK_18 x1 x2 x3 x4 x5 := by
  obtain ⟨h1, a1⟩ := ansI_ok (n := 6000) (d := 20) (y := 75) (q := mentry 75 (.ref 1 :: []) hC0) (v := .int 8) (by decide +kernel)
  obtain ⟨h2, a2⟩ := ansI_ok (n := 6000) (d := 20) (y := 157) (q := mentry 157 (.ref 1 :: []) hM0) (v := .int 8) (by decide +kernel)
  exact ⟨_, h1, h2, a1, a2⟩
set_option maxRecDepth 100000 in
theorem c14_T (x1 : Int32) (f0 : decide (x1 < 0) = true) : ∃ hs', mEnds [] 20 70 (mentry 70 [.ref 1, .int x1] hC0) (some (.int (-1)), hs', 0, 0) := by
  refine ⟨hC0, ?_⟩
  refine mEnds.steps 3 (q' := (4, [some (.ref 1), some (.int x1)], [.int 48, .int 0, .int x1], hC0, 0, 0)) rfl ?_
  refine mEnds.call (d := 19) (y' := 105) (as := [.int x1, .int 0, .int 48]) (q' := (7, [some (.ref 1), some (.int x1)], [], hC0, 0, 0)) (v := some (.int 0)) (hs' := hC0) (c' := 0) (s' := 0) rfl rfl ?_ ?_
  · refine mEnds.steps 2 (q' := (2, [some (.int x1), some (.int 0), some (.int 48)], [.int 0, .int x1], hC0, 0, 0)) rfl ?_
    refine mEnds.brT (q' := (14, [some (.int x1), some (.int 0), some (.int 48)], [], hC0, 0, 0)) rfl f0 rfl ?_
    refine mEnds.steps 1 (q' := (15, [some (.int x1), some (.int 0), some (.int 48)], [.int 0], hC0, 0, 0)) rfl ?_
    exact mEnds.ret rfl
  show mEnds [] 20 70 (7, [some (.ref 1), some (.int x1)], [.int 0], hC0, 0, 0) _
  refine mEnds.steps 2 (q' := (11, [some (.ref 1), some (.int x1)], [.int (-1)], hC0, 0, 0)) rfl ?_
  exact mEnds.ret rfl
set_option maxRecDepth 100000 in
theorem m14_T (x1 : Int32) (f0 : decide (x1 < 0) = true) : ∃ hs', mEnds [] 20 151 (mentry 151 [.ref 1, .int x1] hM0) (some (.int (-1)), hs', 0, 0) := by
  refine ⟨hM0, ?_⟩
  refine mEnds.steps 4 (q' := (6, [some (.ref 1), some (.int x1), none, none], [.long 48, .long 0, .long x1.toInt64], hM0, 0, 0)) rfl ?_
  refine mEnds.call (d := 19) (y' := 111) (as := [.long x1.toInt64, .long 0, .long 48]) (q' := (9, [some (.ref 1), some (.int x1), none, none], [], hM0, 0, 0)) (v := some (.int 0)) (hs' := hM0) (c' := 0) (s' := 0) rfl rfl ?_ ?_
  · refine mEnds.steps 3 (q' := (3, [some (.long x1.toInt64), none, some (.long 0), none, some (.long 48), none], [.int (lg_cmp x1.toInt64 0)], hM0, 0, 0)) rfl ?_
    refine mEnds.brT (q' := (17, [some (.long x1.toInt64), none, some (.long 0), none, some (.long 48), none], [], hM0, 0, 0)) rfl (lgc_lt (c := 0) (by decide) f0) rfl ?_
    refine mEnds.steps 1 (q' := (18, [some (.long x1.toInt64), none, some (.long 0), none, some (.long 48), none], [.int 0], hM0, 0, 0)) rfl ?_
    exact mEnds.ret rfl
  show mEnds [] 20 151 (9, [some (.ref 1), some (.int x1), none, none], [.int 0], hM0, 0, 0) _
  refine mEnds.steps 2 (q' := (13, [some (.ref 1), some (.int x1), none, none], [.int (-1)], hM0, 0, 0)) rfl ?_
  exact mEnds.ret rfl
set_option maxRecDepth 100000 in
theorem c14_FT (x1 : Int32) (f0 : decide (x1 < 0) = false) (f1 : decide (48 < x1) = true) : ∃ hs', mEnds [] 20 70 (mentry 70 [.ref 1, .int x1] hC0) (some (.int (-1)), hs', 0, 0) := by
  refine ⟨hC0, ?_⟩
  refine mEnds.steps 3 (q' := (4, [some (.ref 1), some (.int x1)], [.int 48, .int 0, .int x1], hC0, 0, 0)) rfl ?_
  refine mEnds.call (d := 19) (y' := 105) (as := [.int x1, .int 0, .int 48]) (q' := (7, [some (.ref 1), some (.int x1)], [], hC0, 0, 0)) (v := some (.int 0)) (hs' := hC0) (c' := 0) (s' := 0) rfl rfl ?_ ?_
  · refine mEnds.steps 2 (q' := (2, [some (.int x1), some (.int 0), some (.int 48)], [.int 0, .int x1], hC0, 0, 0)) rfl ?_
    refine mEnds.brF (q' := (5, [some (.int x1), some (.int 0), some (.int 48)], [], hC0, 0, 0)) rfl f0 rfl ?_
    refine mEnds.steps 2 (q' := (7, [some (.int x1), some (.int 0), some (.int 48)], [.int 48, .int x1], hC0, 0, 0)) rfl ?_
    refine mEnds.brT (q' := (14, [some (.int x1), some (.int 0), some (.int 48)], [], hC0, 0, 0)) rfl f1 rfl ?_
    refine mEnds.steps 1 (q' := (15, [some (.int x1), some (.int 0), some (.int 48)], [.int 0], hC0, 0, 0)) rfl ?_
    exact mEnds.ret rfl
  show mEnds [] 20 70 (7, [some (.ref 1), some (.int x1)], [.int 0], hC0, 0, 0) _
  refine mEnds.steps 2 (q' := (11, [some (.ref 1), some (.int x1)], [.int (-1)], hC0, 0, 0)) rfl ?_
  exact mEnds.ret rfl
set_option maxRecDepth 100000 in
theorem m14_FT (x1 : Int32) (f0 : decide (x1 < 0) = false) (f1 : decide (48 < x1) = true) : ∃ hs', mEnds [] 20 151 (mentry 151 [.ref 1, .int x1] hM0) (some (.int (-1)), hs', 0, 0) := by
  refine ⟨hM0, ?_⟩
  refine mEnds.steps 4 (q' := (6, [some (.ref 1), some (.int x1), none, none], [.long 48, .long 0, .long x1.toInt64], hM0, 0, 0)) rfl ?_
  refine mEnds.call (d := 19) (y' := 111) (as := [.long x1.toInt64, .long 0, .long 48]) (q' := (9, [some (.ref 1), some (.int x1), none, none], [], hM0, 0, 0)) (v := some (.int 0)) (hs' := hM0) (c' := 0) (s' := 0) rfl rfl ?_ ?_
  · refine mEnds.steps 3 (q' := (3, [some (.long x1.toInt64), none, some (.long 0), none, some (.long 48), none], [.int (lg_cmp x1.toInt64 0)], hM0, 0, 0)) rfl ?_
    refine mEnds.brF (q' := (6, [some (.long x1.toInt64), none, some (.long 0), none, some (.long 48), none], [], hM0, 0, 0)) rfl (lgc_lt (c := 0) (by decide) f0) rfl ?_
    refine mEnds.steps 3 (q' := (10, [some (.long x1.toInt64), none, some (.long 0), none, some (.long 48), none], [.int (lg_cmp x1.toInt64 48)], hM0, 0, 0)) rfl ?_
    refine mEnds.brT (q' := (17, [some (.long x1.toInt64), none, some (.long 0), none, some (.long 48), none], [], hM0, 0, 0)) rfl (lgc_gt (c := 48) (by decide) f1) rfl ?_
    refine mEnds.steps 1 (q' := (18, [some (.long x1.toInt64), none, some (.long 0), none, some (.long 48), none], [.int 0], hM0, 0, 0)) rfl ?_
    exact mEnds.ret rfl
  show mEnds [] 20 151 (9, [some (.ref 1), some (.int x1), none, none], [.int 0], hM0, 0, 0) _
  refine mEnds.steps 2 (q' := (13, [some (.ref 1), some (.int x1), none, none], [.int (-1)], hM0, 0, 0)) rfl ?_
  exact mEnds.ret rfl
set_option maxRecDepth 100000 in
theorem c14_FFN (N : Nat) (hN : N ≤ 60)  (f0 : decide ((nI N) < 0) = false) (f1 : decide (48 < (nI N)) = false) : ∃ hs', mEnds [] 20 70 (mentry 70 [.ref 1, .int (nI N)] hC0) (some (.int 0), hs', 0, 0) := by
  refine ⟨(hk2 N), ?_⟩
  refine mEnds.steps 3 (q' := (4, [some (.ref 1), some (.int (nI N))], [.int 48, .int 0, .int (nI N)], hC0, 0, 0)) rfl ?_
  refine mEnds.call (d := 19) (y' := 105) (as := [.int (nI N), .int 0, .int 48]) (q' := (7, [some (.ref 1), some (.int (nI N))], [], hC0, 0, 0)) (v := some (.int 1)) (hs' := hC0) (c' := 0) (s' := 0) rfl rfl ?_ ?_
  · refine mEnds.steps 2 (q' := (2, [some (.int (nI N)), some (.int 0), some (.int 48)], [.int 0, .int (nI N)], hC0, 0, 0)) rfl ?_
    refine mEnds.brF (q' := (5, [some (.int (nI N)), some (.int 0), some (.int 48)], [], hC0, 0, 0)) rfl f0 rfl ?_
    refine mEnds.steps 2 (q' := (7, [some (.int (nI N)), some (.int 0), some (.int 48)], [.int 48, .int (nI N)], hC0, 0, 0)) rfl ?_
    refine mEnds.brF (q' := (10, [some (.int (nI N)), some (.int 0), some (.int 48)], [], hC0, 0, 0)) rfl f1 rfl ?_
    refine mEnds.steps 2 (q' := (15, [some (.int (nI N)), some (.int 0), some (.int 48)], [.int 1], hC0, 0, 0)) rfl ?_
    exact mEnds.ret rfl
  show mEnds [] 20 70 (7, [some (.ref 1), some (.int (nI N))], [.int 1], hC0, 0, 0) _
  refine mEnds.steps 7 (q' := (24, [some (.ref 1), some (.int (nI N))], [.int 999, .int (0 + (nI N))], hC0, 0, 0)) rfl ?_
  refine mEnds.brT (q' := (30, [some (.ref 1), some (.int (nI N))], [], hC0, 0, 0)) rfl (mtk_le (z0_gt (gt_F f1 (by decide)))) rfl ?_
  refine mEnds.steps 3 (q' := (35, [some (.ref 1), some (.int (nI N))], [.int (nI N), .ref 2], hC0, 0, 0)) rfl ?_
  refine mEnds.call (d := 19) (y' := 22) (as := [.ref 2, .int (nI N)]) (q' := (38, [some (.ref 1), some (.int (nI N))], [], hC0, 0, 0)) (v := some (.int 0)) (hs' := (hk2 N)) (c' := 0) (s' := 0) rfl rfl ?_ ?_
  · exact mEnds.deep (ph2 hN) 1
  show mEnds [] 20 70 (38, [some (.ref 1), some (.int (nI N))], [.int 0], (hk2 N), 0, 0) _
  exact mEnds.ret rfl
set_option maxRecDepth 100000 in
theorem m14_FFN (N : Nat) (hN : N ≤ 60)  (f0 : decide ((nI N) < 0) = false) (f1 : decide (48 < (nI N)) = false) : ∃ hs', mEnds [] 20 151 (mentry 151 [.ref 1, .int (nI N)] hM0) (some (.int 0), hs', 0, 0) := by
  refine ⟨(hm0 N), ?_⟩
  refine mEnds.steps 4 (q' := (6, [some (.ref 1), some (.int (nI N)), none, none], [.long 48, .long 0, .long (nI N).toInt64], hM0, 0, 0)) rfl ?_
  refine mEnds.call (d := 19) (y' := 111) (as := [.long (nI N).toInt64, .long 0, .long 48]) (q' := (9, [some (.ref 1), some (.int (nI N)), none, none], [], hM0, 0, 0)) (v := some (.int 1)) (hs' := hM0) (c' := 0) (s' := 0) rfl rfl ?_ ?_
  · refine mEnds.steps 3 (q' := (3, [some (.long (nI N).toInt64), none, some (.long 0), none, some (.long 48), none], [.int (lg_cmp (nI N).toInt64 0)], hM0, 0, 0)) rfl ?_
    refine mEnds.brF (q' := (6, [some (.long (nI N).toInt64), none, some (.long 0), none, some (.long 48), none], [], hM0, 0, 0)) rfl (lgc_lt (c := 0) (by decide) f0) rfl ?_
    refine mEnds.steps 3 (q' := (10, [some (.long (nI N).toInt64), none, some (.long 0), none, some (.long 48), none], [.int (lg_cmp (nI N).toInt64 48)], hM0, 0, 0)) rfl ?_
    refine mEnds.brF (q' := (13, [some (.long (nI N).toInt64), none, some (.long 0), none, some (.long 48), none], [], hM0, 0, 0)) rfl (lgc_gt (c := 48) (by decide) f1) rfl ?_
    refine mEnds.steps 2 (q' := (18, [some (.long (nI N).toInt64), none, some (.long 0), none, some (.long 48), none], [.int 1], hM0, 0, 0)) rfl ?_
    exact mEnds.ret rfl
  show mEnds [] 20 151 (9, [some (.ref 1), some (.int (nI N)), none, none], [.int 1], hM0, 0, 0) _
  refine mEnds.steps 8 (q' := (26, [some (.ref 1), some (.int (nI N)), none, none], [.int 999, .int (0 + (nI N))], hM0, 0, 0)) rfl ?_
  refine mEnds.brT (q' := (32, [some (.ref 1), some (.int (nI N)), none, none], [], hM0, 0, 0)) rfl (mtk_le (z0_gt (gt_F f1 (by decide)))) rfl ?_
  refine mEnds.steps 7 (q' := (42, [some (.ref 1), some (.int (nI N)), some (.int 0), some (.int 0)], [], hM0, 0, 0)) rfl ?_
  rw [← hm0_0]
  exact rh_loop hN N 0 (by omega)
theorem ok_14 (x1 x2 x3 x4 x5 : Int32) : callOK_14 x1 x2 x3 x4 x5 := by
  cases f0 : decide (x1 < 0) with
  | true =>
    obtain ⟨h1, a1⟩ := c14_T x1 f0
    obtain ⟨h2, a2⟩ := m14_T x1 f0
    exact ⟨_, h1, h2, a1, a2⟩
  | false =>
    cases f1 : decide (48 < x1) with
    | true =>
      obtain ⟨h1, a1⟩ := c14_FT x1 f0 f1
      obtain ⟨h2, a2⟩ := m14_FT x1 f0 f1
      exact ⟨_, h1, h2, a1, a2⟩
    | false =>
      obtain ⟨N, hN, eN⟩ := i32_rng (n := 49) f0 f1 (by decide)
      obtain rfl := i32_nI eN (by omega)
      replace hN : N ≤ 60 := by omega
      clear eN
      obtain ⟨h1, a1⟩ := c14_FFN N hN f0 f1
      obtain ⟨h2, a2⟩ := m14_FFN N hN f0 f1
      exact ⟨_, h1, h2, a1, a2⟩
set_option maxRecDepth 100000 in
theorem c15_T (x1 x2 : Int32) (f0 : decide (x1 < 0) = true) : ∃ hs', mEnds [] 20 71 (mentry 71 [.ref 1, .int x1, .int x2] hC0) (some (.int (-1)), hs', 0, 0) := by
  refine ⟨hC0, ?_⟩
  refine mEnds.steps 3 (q' := (4, [some (.ref 1), some (.int x1), some (.int x2), none, none], [.int 60, .int 0, .int x1], hC0, 0, 0)) rfl ?_
  refine mEnds.call (d := 19) (y' := 105) (as := [.int x1, .int 0, .int 60]) (q' := (7, [some (.ref 1), some (.int x1), some (.int x2), none, none], [], hC0, 0, 0)) (v := some (.int 0)) (hs' := hC0) (c' := 0) (s' := 0) rfl rfl ?_ ?_
  · refine mEnds.steps 2 (q' := (2, [some (.int x1), some (.int 0), some (.int 60)], [.int 0, .int x1], hC0, 0, 0)) rfl ?_
    refine mEnds.brT (q' := (14, [some (.int x1), some (.int 0), some (.int 60)], [], hC0, 0, 0)) rfl f0 rfl ?_
    refine mEnds.steps 1 (q' := (15, [some (.int x1), some (.int 0), some (.int 60)], [.int 0], hC0, 0, 0)) rfl ?_
    exact mEnds.ret rfl
  show mEnds [] 20 71 (7, [some (.ref 1), some (.int x1), some (.int x2), none, none], [.int 0], hC0, 0, 0) _
  refine mEnds.steps 2 (q' := (20, [some (.ref 1), some (.int x1), some (.int x2), none, none], [.int (-1)], hC0, 0, 0)) rfl ?_
  exact mEnds.ret rfl
set_option maxRecDepth 100000 in
theorem m15_T (x1 x2 : Int32) (f0 : decide (x1 < 0) = true) : ∃ hs', mEnds [] 20 154 (mentry 154 [.ref 1, .int x1, .int x2] hM0) (some (.int (-1)), hs', 0, 0) := by
  refine ⟨hM0, ?_⟩
  refine mEnds.steps 4 (q' := (6, [some (.ref 1), some (.int x1), some (.int x2), none], [.long 60, .long 0, .long x1.toInt64], hM0, 0, 0)) rfl ?_
  refine mEnds.call (d := 19) (y' := 111) (as := [.long x1.toInt64, .long 0, .long 60]) (q' := (9, [some (.ref 1), some (.int x1), some (.int x2), none], [], hM0, 0, 0)) (v := some (.int 0)) (hs' := hM0) (c' := 0) (s' := 0) rfl rfl ?_ ?_
  · refine mEnds.steps 3 (q' := (3, [some (.long x1.toInt64), none, some (.long 0), none, some (.long 60), none], [.int (lg_cmp x1.toInt64 0)], hM0, 0, 0)) rfl ?_
    refine mEnds.brT (q' := (17, [some (.long x1.toInt64), none, some (.long 0), none, some (.long 60), none], [], hM0, 0, 0)) rfl (lgc_lt (c := 0) (by decide) f0) rfl ?_
    refine mEnds.steps 1 (q' := (18, [some (.long x1.toInt64), none, some (.long 0), none, some (.long 60), none], [.int 0], hM0, 0, 0)) rfl ?_
    exact mEnds.ret rfl
  show mEnds [] 20 154 (9, [some (.ref 1), some (.int x1), some (.int x2), none], [.int 0], hM0, 0, 0) _
  refine mEnds.steps 2 (q' := (25, [some (.ref 1), some (.int x1), some (.int x2), none], [.int (-1)], hM0, 0, 0)) rfl ?_
  exact mEnds.ret rfl
set_option maxRecDepth 100000 in
theorem c15_FT (x1 x2 : Int32) (f0 : decide (x1 < 0) = false) (f1 : decide (60 < x1) = true) : ∃ hs', mEnds [] 20 71 (mentry 71 [.ref 1, .int x1, .int x2] hC0) (some (.int (-1)), hs', 0, 0) := by
  refine ⟨hC0, ?_⟩
  refine mEnds.steps 3 (q' := (4, [some (.ref 1), some (.int x1), some (.int x2), none, none], [.int 60, .int 0, .int x1], hC0, 0, 0)) rfl ?_
  refine mEnds.call (d := 19) (y' := 105) (as := [.int x1, .int 0, .int 60]) (q' := (7, [some (.ref 1), some (.int x1), some (.int x2), none, none], [], hC0, 0, 0)) (v := some (.int 0)) (hs' := hC0) (c' := 0) (s' := 0) rfl rfl ?_ ?_
  · refine mEnds.steps 2 (q' := (2, [some (.int x1), some (.int 0), some (.int 60)], [.int 0, .int x1], hC0, 0, 0)) rfl ?_
    refine mEnds.brF (q' := (5, [some (.int x1), some (.int 0), some (.int 60)], [], hC0, 0, 0)) rfl f0 rfl ?_
    refine mEnds.steps 2 (q' := (7, [some (.int x1), some (.int 0), some (.int 60)], [.int 60, .int x1], hC0, 0, 0)) rfl ?_
    refine mEnds.brT (q' := (14, [some (.int x1), some (.int 0), some (.int 60)], [], hC0, 0, 0)) rfl f1 rfl ?_
    refine mEnds.steps 1 (q' := (15, [some (.int x1), some (.int 0), some (.int 60)], [.int 0], hC0, 0, 0)) rfl ?_
    exact mEnds.ret rfl
  show mEnds [] 20 71 (7, [some (.ref 1), some (.int x1), some (.int x2), none, none], [.int 0], hC0, 0, 0) _
  refine mEnds.steps 2 (q' := (20, [some (.ref 1), some (.int x1), some (.int x2), none, none], [.int (-1)], hC0, 0, 0)) rfl ?_
  exact mEnds.ret rfl
set_option maxRecDepth 100000 in
theorem m15_FT (x1 x2 : Int32) (f0 : decide (x1 < 0) = false) (f1 : decide (60 < x1) = true) : ∃ hs', mEnds [] 20 154 (mentry 154 [.ref 1, .int x1, .int x2] hM0) (some (.int (-1)), hs', 0, 0) := by
  refine ⟨hM0, ?_⟩
  refine mEnds.steps 4 (q' := (6, [some (.ref 1), some (.int x1), some (.int x2), none], [.long 60, .long 0, .long x1.toInt64], hM0, 0, 0)) rfl ?_
  refine mEnds.call (d := 19) (y' := 111) (as := [.long x1.toInt64, .long 0, .long 60]) (q' := (9, [some (.ref 1), some (.int x1), some (.int x2), none], [], hM0, 0, 0)) (v := some (.int 0)) (hs' := hM0) (c' := 0) (s' := 0) rfl rfl ?_ ?_
  · refine mEnds.steps 3 (q' := (3, [some (.long x1.toInt64), none, some (.long 0), none, some (.long 60), none], [.int (lg_cmp x1.toInt64 0)], hM0, 0, 0)) rfl ?_
    refine mEnds.brF (q' := (6, [some (.long x1.toInt64), none, some (.long 0), none, some (.long 60), none], [], hM0, 0, 0)) rfl (lgc_lt (c := 0) (by decide) f0) rfl ?_
    refine mEnds.steps 3 (q' := (10, [some (.long x1.toInt64), none, some (.long 0), none, some (.long 60), none], [.int (lg_cmp x1.toInt64 60)], hM0, 0, 0)) rfl ?_
    refine mEnds.brT (q' := (17, [some (.long x1.toInt64), none, some (.long 0), none, some (.long 60), none], [], hM0, 0, 0)) rfl (lgc_gt (c := 60) (by decide) f1) rfl ?_
    refine mEnds.steps 1 (q' := (18, [some (.long x1.toInt64), none, some (.long 0), none, some (.long 60), none], [.int 0], hM0, 0, 0)) rfl ?_
    exact mEnds.ret rfl
  show mEnds [] 20 154 (9, [some (.ref 1), some (.int x1), some (.int x2), none], [.int 0], hM0, 0, 0) _
  refine mEnds.steps 2 (q' := (25, [some (.ref 1), some (.int x1), some (.int x2), none], [.int (-1)], hM0, 0, 0)) rfl ?_
  exact mEnds.ret rfl
set_option maxRecDepth 100000 in
theorem c15_FFT (x1 x2 : Int32) (f0 : decide (x1 < 0) = false) (f1 : decide (60 < x1) = false) (f2 : decide (x2 < 0) = true) : ∃ hs', mEnds [] 20 71 (mentry 71 [.ref 1, .int x1, .int x2] hC0) (some (.int (-1)), hs', 0, 0) := by
  refine ⟨hC0, ?_⟩
  refine mEnds.steps 3 (q' := (4, [some (.ref 1), some (.int x1), some (.int x2), none, none], [.int 60, .int 0, .int x1], hC0, 0, 0)) rfl ?_
  refine mEnds.call (d := 19) (y' := 105) (as := [.int x1, .int 0, .int 60]) (q' := (7, [some (.ref 1), some (.int x1), some (.int x2), none, none], [], hC0, 0, 0)) (v := some (.int 1)) (hs' := hC0) (c' := 0) (s' := 0) rfl rfl ?_ ?_
  · refine mEnds.steps 2 (q' := (2, [some (.int x1), some (.int 0), some (.int 60)], [.int 0, .int x1], hC0, 0, 0)) rfl ?_
    refine mEnds.brF (q' := (5, [some (.int x1), some (.int 0), some (.int 60)], [], hC0, 0, 0)) rfl f0 rfl ?_
    refine mEnds.steps 2 (q' := (7, [some (.int x1), some (.int 0), some (.int 60)], [.int 60, .int x1], hC0, 0, 0)) rfl ?_
    refine mEnds.brF (q' := (10, [some (.int x1), some (.int 0), some (.int 60)], [], hC0, 0, 0)) rfl f1 rfl ?_
    refine mEnds.steps 2 (q' := (15, [some (.int x1), some (.int 0), some (.int 60)], [.int 1], hC0, 0, 0)) rfl ?_
    exact mEnds.ret rfl
  show mEnds [] 20 71 (7, [some (.ref 1), some (.int x1), some (.int x2), none, none], [.int 1], hC0, 0, 0) _
  refine mEnds.steps 4 (q' := (13, [some (.ref 1), some (.int x1), some (.int x2), none, none], [.int 4, .int 0, .int x2], hC0, 0, 0)) rfl ?_
  refine mEnds.call (d := 19) (y' := 105) (as := [.int x2, .int 0, .int 4]) (q' := (16, [some (.ref 1), some (.int x1), some (.int x2), none, none], [], hC0, 0, 0)) (v := some (.int 0)) (hs' := hC0) (c' := 0) (s' := 0) rfl rfl ?_ ?_
  · refine mEnds.steps 2 (q' := (2, [some (.int x2), some (.int 0), some (.int 4)], [.int 0, .int x2], hC0, 0, 0)) rfl ?_
    refine mEnds.brT (q' := (14, [some (.int x2), some (.int 0), some (.int 4)], [], hC0, 0, 0)) rfl f2 rfl ?_
    refine mEnds.steps 1 (q' := (15, [some (.int x2), some (.int 0), some (.int 4)], [.int 0], hC0, 0, 0)) rfl ?_
    exact mEnds.ret rfl
  show mEnds [] 20 71 (16, [some (.ref 1), some (.int x1), some (.int x2), none, none], [.int 0], hC0, 0, 0) _
  refine mEnds.steps 2 (q' := (20, [some (.ref 1), some (.int x1), some (.int x2), none, none], [.int (-1)], hC0, 0, 0)) rfl ?_
  exact mEnds.ret rfl
set_option maxRecDepth 100000 in
theorem m15_FFT (x1 x2 : Int32) (f0 : decide (x1 < 0) = false) (f1 : decide (60 < x1) = false) (f2 : decide (x2 < 0) = true) : ∃ hs', mEnds [] 20 154 (mentry 154 [.ref 1, .int x1, .int x2] hM0) (some (.int (-1)), hs', 0, 0) := by
  refine ⟨hM0, ?_⟩
  refine mEnds.steps 4 (q' := (6, [some (.ref 1), some (.int x1), some (.int x2), none], [.long 60, .long 0, .long x1.toInt64], hM0, 0, 0)) rfl ?_
  refine mEnds.call (d := 19) (y' := 111) (as := [.long x1.toInt64, .long 0, .long 60]) (q' := (9, [some (.ref 1), some (.int x1), some (.int x2), none], [], hM0, 0, 0)) (v := some (.int 1)) (hs' := hM0) (c' := 0) (s' := 0) rfl rfl ?_ ?_
  · refine mEnds.steps 3 (q' := (3, [some (.long x1.toInt64), none, some (.long 0), none, some (.long 60), none], [.int (lg_cmp x1.toInt64 0)], hM0, 0, 0)) rfl ?_
    refine mEnds.brF (q' := (6, [some (.long x1.toInt64), none, some (.long 0), none, some (.long 60), none], [], hM0, 0, 0)) rfl (lgc_lt (c := 0) (by decide) f0) rfl ?_
    refine mEnds.steps 3 (q' := (10, [some (.long x1.toInt64), none, some (.long 0), none, some (.long 60), none], [.int (lg_cmp x1.toInt64 60)], hM0, 0, 0)) rfl ?_
    refine mEnds.brF (q' := (13, [some (.long x1.toInt64), none, some (.long 0), none, some (.long 60), none], [], hM0, 0, 0)) rfl (lgc_gt (c := 60) (by decide) f1) rfl ?_
    refine mEnds.steps 2 (q' := (18, [some (.long x1.toInt64), none, some (.long 0), none, some (.long 60), none], [.int 1], hM0, 0, 0)) rfl ?_
    exact mEnds.ret rfl
  show mEnds [] 20 154 (9, [some (.ref 1), some (.int x1), some (.int x2), none], [.int 1], hM0, 0, 0) _
  refine mEnds.steps 5 (q' := (18, [some (.ref 1), some (.int x1), some (.int x2), none], [.long 4, .long 0, .long x2.toInt64], hM0, 0, 0)) rfl ?_
  refine mEnds.call (d := 19) (y' := 111) (as := [.long x2.toInt64, .long 0, .long 4]) (q' := (21, [some (.ref 1), some (.int x1), some (.int x2), none], [], hM0, 0, 0)) (v := some (.int 0)) (hs' := hM0) (c' := 0) (s' := 0) rfl rfl ?_ ?_
  · refine mEnds.steps 3 (q' := (3, [some (.long x2.toInt64), none, some (.long 0), none, some (.long 4), none], [.int (lg_cmp x2.toInt64 0)], hM0, 0, 0)) rfl ?_
    refine mEnds.brT (q' := (17, [some (.long x2.toInt64), none, some (.long 0), none, some (.long 4), none], [], hM0, 0, 0)) rfl (lgc_lt (c := 0) (by decide) f2) rfl ?_
    refine mEnds.steps 1 (q' := (18, [some (.long x2.toInt64), none, some (.long 0), none, some (.long 4), none], [.int 0], hM0, 0, 0)) rfl ?_
    exact mEnds.ret rfl
  show mEnds [] 20 154 (21, [some (.ref 1), some (.int x1), some (.int x2), none], [.int 0], hM0, 0, 0) _
  refine mEnds.steps 2 (q' := (25, [some (.ref 1), some (.int x1), some (.int x2), none], [.int (-1)], hM0, 0, 0)) rfl ?_
  exact mEnds.ret rfl
set_option maxRecDepth 100000 in
theorem c15_FFFT (x1 x2 : Int32) (f0 : decide (x1 < 0) = false) (f1 : decide (60 < x1) = false) (f2 : decide (x2 < 0) = false) (f3 : decide (4 < x2) = true) : ∃ hs', mEnds [] 20 71 (mentry 71 [.ref 1, .int x1, .int x2] hC0) (some (.int (-1)), hs', 0, 0) := by
  refine ⟨hC0, ?_⟩
  refine mEnds.steps 3 (q' := (4, [some (.ref 1), some (.int x1), some (.int x2), none, none], [.int 60, .int 0, .int x1], hC0, 0, 0)) rfl ?_
  refine mEnds.call (d := 19) (y' := 105) (as := [.int x1, .int 0, .int 60]) (q' := (7, [some (.ref 1), some (.int x1), some (.int x2), none, none], [], hC0, 0, 0)) (v := some (.int 1)) (hs' := hC0) (c' := 0) (s' := 0) rfl rfl ?_ ?_
  · refine mEnds.steps 2 (q' := (2, [some (.int x1), some (.int 0), some (.int 60)], [.int 0, .int x1], hC0, 0, 0)) rfl ?_
    refine mEnds.brF (q' := (5, [some (.int x1), some (.int 0), some (.int 60)], [], hC0, 0, 0)) rfl f0 rfl ?_
    refine mEnds.steps 2 (q' := (7, [some (.int x1), some (.int 0), some (.int 60)], [.int 60, .int x1], hC0, 0, 0)) rfl ?_
    refine mEnds.brF (q' := (10, [some (.int x1), some (.int 0), some (.int 60)], [], hC0, 0, 0)) rfl f1 rfl ?_
    refine mEnds.steps 2 (q' := (15, [some (.int x1), some (.int 0), some (.int 60)], [.int 1], hC0, 0, 0)) rfl ?_
    exact mEnds.ret rfl
  show mEnds [] 20 71 (7, [some (.ref 1), some (.int x1), some (.int x2), none, none], [.int 1], hC0, 0, 0) _
  refine mEnds.steps 4 (q' := (13, [some (.ref 1), some (.int x1), some (.int x2), none, none], [.int 4, .int 0, .int x2], hC0, 0, 0)) rfl ?_
  refine mEnds.call (d := 19) (y' := 105) (as := [.int x2, .int 0, .int 4]) (q' := (16, [some (.ref 1), some (.int x1), some (.int x2), none, none], [], hC0, 0, 0)) (v := some (.int 0)) (hs' := hC0) (c' := 0) (s' := 0) rfl rfl ?_ ?_
  · refine mEnds.steps 2 (q' := (2, [some (.int x2), some (.int 0), some (.int 4)], [.int 0, .int x2], hC0, 0, 0)) rfl ?_
    refine mEnds.brF (q' := (5, [some (.int x2), some (.int 0), some (.int 4)], [], hC0, 0, 0)) rfl f2 rfl ?_
    refine mEnds.steps 2 (q' := (7, [some (.int x2), some (.int 0), some (.int 4)], [.int 4, .int x2], hC0, 0, 0)) rfl ?_
    refine mEnds.brT (q' := (14, [some (.int x2), some (.int 0), some (.int 4)], [], hC0, 0, 0)) rfl f3 rfl ?_
    refine mEnds.steps 1 (q' := (15, [some (.int x2), some (.int 0), some (.int 4)], [.int 0], hC0, 0, 0)) rfl ?_
    exact mEnds.ret rfl
  show mEnds [] 20 71 (16, [some (.ref 1), some (.int x1), some (.int x2), none, none], [.int 0], hC0, 0, 0) _
  refine mEnds.steps 2 (q' := (20, [some (.ref 1), some (.int x1), some (.int x2), none, none], [.int (-1)], hC0, 0, 0)) rfl ?_
  exact mEnds.ret rfl
set_option maxRecDepth 100000 in
theorem m15_FFFT (x1 x2 : Int32) (f0 : decide (x1 < 0) = false) (f1 : decide (60 < x1) = false) (f2 : decide (x2 < 0) = false) (f3 : decide (4 < x2) = true) : ∃ hs', mEnds [] 20 154 (mentry 154 [.ref 1, .int x1, .int x2] hM0) (some (.int (-1)), hs', 0, 0) := by
  refine ⟨hM0, ?_⟩
  refine mEnds.steps 4 (q' := (6, [some (.ref 1), some (.int x1), some (.int x2), none], [.long 60, .long 0, .long x1.toInt64], hM0, 0, 0)) rfl ?_
  refine mEnds.call (d := 19) (y' := 111) (as := [.long x1.toInt64, .long 0, .long 60]) (q' := (9, [some (.ref 1), some (.int x1), some (.int x2), none], [], hM0, 0, 0)) (v := some (.int 1)) (hs' := hM0) (c' := 0) (s' := 0) rfl rfl ?_ ?_
  · refine mEnds.steps 3 (q' := (3, [some (.long x1.toInt64), none, some (.long 0), none, some (.long 60), none], [.int (lg_cmp x1.toInt64 0)], hM0, 0, 0)) rfl ?_
    refine mEnds.brF (q' := (6, [some (.long x1.toInt64), none, some (.long 0), none, some (.long 60), none], [], hM0, 0, 0)) rfl (lgc_lt (c := 0) (by decide) f0) rfl ?_
    refine mEnds.steps 3 (q' := (10, [some (.long x1.toInt64), none, some (.long 0), none, some (.long 60), none], [.int (lg_cmp x1.toInt64 60)], hM0, 0, 0)) rfl ?_
    refine mEnds.brF (q' := (13, [some (.long x1.toInt64), none, some (.long 0), none, some (.long 60), none], [], hM0, 0, 0)) rfl (lgc_gt (c := 60) (by decide) f1) rfl ?_
    refine mEnds.steps 2 (q' := (18, [some (.long x1.toInt64), none, some (.long 0), none, some (.long 60), none], [.int 1], hM0, 0, 0)) rfl ?_
    exact mEnds.ret rfl
  show mEnds [] 20 154 (9, [some (.ref 1), some (.int x1), some (.int x2), none], [.int 1], hM0, 0, 0) _
  refine mEnds.steps 5 (q' := (18, [some (.ref 1), some (.int x1), some (.int x2), none], [.long 4, .long 0, .long x2.toInt64], hM0, 0, 0)) rfl ?_
  refine mEnds.call (d := 19) (y' := 111) (as := [.long x2.toInt64, .long 0, .long 4]) (q' := (21, [some (.ref 1), some (.int x1), some (.int x2), none], [], hM0, 0, 0)) (v := some (.int 0)) (hs' := hM0) (c' := 0) (s' := 0) rfl rfl ?_ ?_
  · refine mEnds.steps 3 (q' := (3, [some (.long x2.toInt64), none, some (.long 0), none, some (.long 4), none], [.int (lg_cmp x2.toInt64 0)], hM0, 0, 0)) rfl ?_
    refine mEnds.brF (q' := (6, [some (.long x2.toInt64), none, some (.long 0), none, some (.long 4), none], [], hM0, 0, 0)) rfl (lgc_lt (c := 0) (by decide) f2) rfl ?_
    refine mEnds.steps 3 (q' := (10, [some (.long x2.toInt64), none, some (.long 0), none, some (.long 4), none], [.int (lg_cmp x2.toInt64 4)], hM0, 0, 0)) rfl ?_
    refine mEnds.brT (q' := (17, [some (.long x2.toInt64), none, some (.long 0), none, some (.long 4), none], [], hM0, 0, 0)) rfl (lgc_gt (c := 4) (by decide) f3) rfl ?_
    refine mEnds.steps 1 (q' := (18, [some (.long x2.toInt64), none, some (.long 0), none, some (.long 4), none], [.int 0], hM0, 0, 0)) rfl ?_
    exact mEnds.ret rfl
  show mEnds [] 20 154 (21, [some (.ref 1), some (.int x1), some (.int x2), none], [.int 0], hM0, 0, 0) _
  refine mEnds.steps 2 (q' := (25, [some (.ref 1), some (.int x1), some (.int x2), none], [.int (-1)], hM0, 0, 0)) rfl ?_
  exact mEnds.ret rfl
set_option maxRecDepth 100000 in
theorem c15_FFFFv0N (N : Nat) (hN : N ≤ 60)  (f0 : decide ((nI N) < 0) = false) (f1 : decide (60 < (nI N)) = false) : ∃ hs', mEnds [] 20 71 (mentry 71 [.ref 1, .int (nI N), .int 0] hC0) (some (.int 0), hs', 0, 0) := by
  refine ⟨(hk44 N), ?_⟩
  refine mEnds.steps 3 (q' := (4, [some (.ref 1), some (.int (nI N)), some (.int 0), none, none], [.int 60, .int 0, .int (nI N)], hC0, 0, 0)) rfl ?_
  refine mEnds.call (d := 19) (y' := 105) (as := [.int (nI N), .int 0, .int 60]) (q' := (7, [some (.ref 1), some (.int (nI N)), some (.int 0), none, none], [], hC0, 0, 0)) (v := some (.int 1)) (hs' := hC0) (c' := 0) (s' := 0) rfl rfl ?_ ?_
  · refine mEnds.steps 2 (q' := (2, [some (.int (nI N)), some (.int 0), some (.int 60)], [.int 0, .int (nI N)], hC0, 0, 0)) rfl ?_
    refine mEnds.brF (q' := (5, [some (.int (nI N)), some (.int 0), some (.int 60)], [], hC0, 0, 0)) rfl f0 rfl ?_
    refine mEnds.steps 2 (q' := (7, [some (.int (nI N)), some (.int 0), some (.int 60)], [.int 60, .int (nI N)], hC0, 0, 0)) rfl ?_
    refine mEnds.brF (q' := (10, [some (.int (nI N)), some (.int 0), some (.int 60)], [], hC0, 0, 0)) rfl f1 rfl ?_
    refine mEnds.steps 2 (q' := (15, [some (.int (nI N)), some (.int 0), some (.int 60)], [.int 1], hC0, 0, 0)) rfl ?_
    exact mEnds.ret rfl
  show mEnds [] 20 71 (7, [some (.ref 1), some (.int (nI N)), some (.int 0), none, none], [.int 1], hC0, 0, 0) _
  refine mEnds.steps 4 (q' := (13, [some (.ref 1), some (.int (nI N)), some (.int 0), none, none], [.int 4, .int 0, .int 0], hC0, 0, 0)) rfl ?_
  refine mEnds.call (d := 19) (y' := 105) (as := [.int 0, .int 0, .int 4]) (q' := (16, [some (.ref 1), some (.int (nI N)), some (.int 0), none, none], [], hC0, 0, 0)) (v := some (.int 1)) (hs' := hC0) (c' := 0) (s' := 0) rfl rfl ?_ ?_
  · refine mEnds.steps 8 (q' := (15, [some (.int 0), some (.int 0), some (.int 4)], [.int 1], hC0, 0, 0)) rfl ?_
    exact mEnds.ret rfl
  show mEnds [] 20 71 (16, [some (.ref 1), some (.int (nI N)), some (.int 0), none, none], [.int 1], hC0, 0, 0) _
  refine mEnds.steps 5 (q' := (48, [some (.ref 1), some (.int (nI N)), some (.int 0), none, none], [.ref 1], hC0, 0, 0)) rfl ?_
  refine mEnds.call (d := 19) (y' := 109) (as := [.ref 1]) (q' := (51, [some (.ref 1), some (.int (nI N)), some (.int 0), none, none], [], hC0, 0, 0)) (v := some (.ref 44)) (hs' := hC0) (c' := 0) (s' := 0) rfl rfl ?_ ?_
  · exact mEnds.deep cpn 9
  show mEnds [] 20 71 (51, [some (.ref 1), some (.int (nI N)), some (.int 0), none, none], [.ref 44], hC0, 0, 0) _
  refine mEnds.steps 3 (q' := (54, [some (.ref 1), some (.int (nI N)), some (.int 0), some (.ref 44), none], [.int (nI N), .ref 44], hC0, 0, 0)) rfl ?_
  refine mEnds.call (d := 19) (y' := 22) (as := [.ref 44, .int (nI N)]) (q' := (57, [some (.ref 1), some (.int (nI N)), some (.int 0), some (.ref 44), none], [], hC0, 0, 0)) (v := some (.int 0)) (hs' := (hk44 N)) (c' := 0) (s' := 0) rfl rfl ?_ ?_
  · exact mEnds.deep (ph44 hN) 1
  show mEnds [] 20 71 (57, [some (.ref 1), some (.int (nI N)), some (.int 0), some (.ref 44), none], [.int 0], (hk44 N), 0, 0) _
  refine mEnds.steps 4 (q' := (90, [some (.ref 1), some (.int (nI N)), some (.int 0), some (.ref 44), some (.int 0)], [.int 0], (hk44 N), 0, 0)) rfl ?_
  exact mEnds.ret rfl
set_option maxRecDepth 100000 in
theorem m15_FFFFv0N (N : Nat) (hN : N ≤ 60)  (f0 : decide ((nI N) < 0) = false) (f1 : decide (60 < (nI N)) = false) : ∃ hs', mEnds [] 20 154 (mentry 154 [.ref 1, .int (nI N), .int 0] hM0) (some (.int 0), hs', 0, 0) := by
  refine ⟨(hg N (tt N)), ?_⟩
  refine mEnds.steps 4 (q' := (6, [some (.ref 1), some (.int (nI N)), some (.int 0), none], [.long 60, .long 0, .long (nI N).toInt64], hM0, 0, 0)) rfl ?_
  refine mEnds.call (d := 19) (y' := 111) (as := [.long (nI N).toInt64, .long 0, .long 60]) (q' := (9, [some (.ref 1), some (.int (nI N)), some (.int 0), none], [], hM0, 0, 0)) (v := some (.int 1)) (hs' := hM0) (c' := 0) (s' := 0) rfl rfl ?_ ?_
  · refine mEnds.steps 3 (q' := (3, [some (.long (nI N).toInt64), none, some (.long 0), none, some (.long 60), none], [.int (lg_cmp (nI N).toInt64 0)], hM0, 0, 0)) rfl ?_
    refine mEnds.brF (q' := (6, [some (.long (nI N).toInt64), none, some (.long 0), none, some (.long 60), none], [], hM0, 0, 0)) rfl (lgc_lt (c := 0) (by decide) f0) rfl ?_
    refine mEnds.steps 3 (q' := (10, [some (.long (nI N).toInt64), none, some (.long 0), none, some (.long 60), none], [.int (lg_cmp (nI N).toInt64 60)], hM0, 0, 0)) rfl ?_
    refine mEnds.brF (q' := (13, [some (.long (nI N).toInt64), none, some (.long 0), none, some (.long 60), none], [], hM0, 0, 0)) rfl (lgc_gt (c := 60) (by decide) f1) rfl ?_
    refine mEnds.steps 2 (q' := (18, [some (.long (nI N).toInt64), none, some (.long 0), none, some (.long 60), none], [.int 1], hM0, 0, 0)) rfl ?_
    exact mEnds.ret rfl
  show mEnds [] 20 154 (9, [some (.ref 1), some (.int (nI N)), some (.int 0), none], [.int 1], hM0, 0, 0) _
  refine mEnds.steps 5 (q' := (18, [some (.ref 1), some (.int (nI N)), some (.int 0), none], [.long 4, .long 0, .long 0], hM0, 0, 0)) rfl ?_
  refine mEnds.call (d := 19) (y' := 111) (as := [.long 0, .long 0, .long 4]) (q' := (21, [some (.ref 1), some (.int (nI N)), some (.int 0), none], [], hM0, 0, 0)) (v := some (.int 1)) (hs' := hM0) (c' := 0) (s' := 0) rfl rfl ?_ ?_
  · refine mEnds.steps 10 (q' := (18, [some (.long 0), none, some (.long 0), none, some (.long 4), none], [.int 1], hM0, 0, 0)) rfl ?_
    exact mEnds.ret rfl
  show mEnds [] 20 154 (21, [some (.ref 1), some (.int (nI N)), some (.int 0), none], [.int 1], hM0, 0, 0) _
  refine mEnds.steps 4 (q' := (29, [some (.ref 1), some (.int (nI N)), some (.int 0), none], [.int (nI N), .int 0, .ref 1], hM0, 0, 0)) rfl ?_
  refine mEnds.call (d := 19) (y' := 153) (as := [.ref 1, .int 0, .int (nI N)]) (q' := (32, [some (.ref 1), some (.int (nI N)), some (.int 0), none], [], hM0, 0, 0)) (v := some (.int 0)) (hs' := (hg N (tt N))) (c' := 0) (s' := 0) rfl rfl ?_ ?_
  · exact mEnds.deep (hgo hN) 1
  show mEnds [] 20 154 (32, [some (.ref 1), some (.int (nI N)), some (.int 0), none], [.int 0], (hg N (tt N)), 0, 0) _
  refine mEnds.steps 4 (q' := (65, [some (.ref 1), some (.int (nI N)), some (.int 0), some (.int 0)], [.int 0], (hg N (tt N)), 0, 0)) rfl ?_
  exact mEnds.ret rfl
set_option maxRecDepth 100000 in
theorem c15_FFFFv1N (N : Nat) (hN : N ≤ 60)  (f0 : decide ((nI N) < 0) = false) (f1 : decide (60 < (nI N)) = false) : ∃ hs', mEnds [] 20 71 (mentry 71 [.ref 1, .int (nI N), .int 1] hC0) (some (.int 0), hs', 0, 0) := by
  refine ⟨(hk44 N), ?_⟩
  refine mEnds.steps 3 (q' := (4, [some (.ref 1), some (.int (nI N)), some (.int 1), none, none], [.int 60, .int 0, .int (nI N)], hC0, 0, 0)) rfl ?_
  refine mEnds.call (d := 19) (y' := 105) (as := [.int (nI N), .int 0, .int 60]) (q' := (7, [some (.ref 1), some (.int (nI N)), some (.int 1), none, none], [], hC0, 0, 0)) (v := some (.int 1)) (hs' := hC0) (c' := 0) (s' := 0) rfl rfl ?_ ?_
  · refine mEnds.steps 2 (q' := (2, [some (.int (nI N)), some (.int 0), some (.int 60)], [.int 0, .int (nI N)], hC0, 0, 0)) rfl ?_
    refine mEnds.brF (q' := (5, [some (.int (nI N)), some (.int 0), some (.int 60)], [], hC0, 0, 0)) rfl f0 rfl ?_
    refine mEnds.steps 2 (q' := (7, [some (.int (nI N)), some (.int 0), some (.int 60)], [.int 60, .int (nI N)], hC0, 0, 0)) rfl ?_
    refine mEnds.brF (q' := (10, [some (.int (nI N)), some (.int 0), some (.int 60)], [], hC0, 0, 0)) rfl f1 rfl ?_
    refine mEnds.steps 2 (q' := (15, [some (.int (nI N)), some (.int 0), some (.int 60)], [.int 1], hC0, 0, 0)) rfl ?_
    exact mEnds.ret rfl
  show mEnds [] 20 71 (7, [some (.ref 1), some (.int (nI N)), some (.int 1), none, none], [.int 1], hC0, 0, 0) _
  refine mEnds.steps 4 (q' := (13, [some (.ref 1), some (.int (nI N)), some (.int 1), none, none], [.int 4, .int 0, .int 1], hC0, 0, 0)) rfl ?_
  refine mEnds.call (d := 19) (y' := 105) (as := [.int 1, .int 0, .int 4]) (q' := (16, [some (.ref 1), some (.int (nI N)), some (.int 1), none, none], [], hC0, 0, 0)) (v := some (.int 1)) (hs' := hC0) (c' := 0) (s' := 0) rfl rfl ?_ ?_
  · refine mEnds.steps 8 (q' := (15, [some (.int 1), some (.int 0), some (.int 4)], [.int 1], hC0, 0, 0)) rfl ?_
    exact mEnds.ret rfl
  show mEnds [] 20 71 (16, [some (.ref 1), some (.int (nI N)), some (.int 1), none, none], [.int 1], hC0, 0, 0) _
  refine mEnds.steps 5 (q' := (48, [some (.ref 1), some (.int (nI N)), some (.int 1), none, none], [.ref 1], hC0, 0, 0)) rfl ?_
  refine mEnds.call (d := 19) (y' := 109) (as := [.ref 1]) (q' := (51, [some (.ref 1), some (.int (nI N)), some (.int 1), none, none], [], hC0, 0, 0)) (v := some (.ref 44)) (hs' := hC0) (c' := 0) (s' := 0) rfl rfl ?_ ?_
  · exact mEnds.deep cpn 9
  show mEnds [] 20 71 (51, [some (.ref 1), some (.int (nI N)), some (.int 1), none, none], [.ref 44], hC0, 0, 0) _
  refine mEnds.steps 3 (q' := (54, [some (.ref 1), some (.int (nI N)), some (.int 1), some (.ref 44), none], [.int (nI N), .ref 44], hC0, 0, 0)) rfl ?_
  refine mEnds.call (d := 19) (y' := 22) (as := [.ref 44, .int (nI N)]) (q' := (57, [some (.ref 1), some (.int (nI N)), some (.int 1), some (.ref 44), none], [], hC0, 0, 0)) (v := some (.int 0)) (hs' := (hk44 N)) (c' := 0) (s' := 0) rfl rfl ?_ ?_
  · exact mEnds.deep (ph44 hN) 1
  show mEnds [] 20 71 (57, [some (.ref 1), some (.int (nI N)), some (.int 1), some (.ref 44), none], [.int 0], (hk44 N), 0, 0) _
  refine mEnds.steps 8 (q' := (102, [some (.ref 1), some (.int (nI N)), some (.int 1), some (.ref 44), some (.int 0)], [.int 0, .int 0], (hk44 N), 0, 0)) rfl ?_
  refine mEnds.steps 1 (q' := (103, [some (.ref 1), some (.int (nI N)), some (.int 1), some (.ref 44), some (.int 0)], [.int 0], (hk44 N), 0, 0)) rfl ?_
  exact mEnds.ret rfl
set_option maxRecDepth 100000 in
theorem m15_FFFFv1N (N : Nat) (hN : N ≤ 60)  (f0 : decide ((nI N) < 0) = false) (f1 : decide (60 < (nI N)) = false) : ∃ hs', mEnds [] 20 154 (mentry 154 [.ref 1, .int (nI N), .int 1] hM0) (some (.int 0), hs', 0, 0) := by
  refine ⟨(hg N (tt N)), ?_⟩
  refine mEnds.steps 4 (q' := (6, [some (.ref 1), some (.int (nI N)), some (.int 1), none], [.long 60, .long 0, .long (nI N).toInt64], hM0, 0, 0)) rfl ?_
  refine mEnds.call (d := 19) (y' := 111) (as := [.long (nI N).toInt64, .long 0, .long 60]) (q' := (9, [some (.ref 1), some (.int (nI N)), some (.int 1), none], [], hM0, 0, 0)) (v := some (.int 1)) (hs' := hM0) (c' := 0) (s' := 0) rfl rfl ?_ ?_
  · refine mEnds.steps 3 (q' := (3, [some (.long (nI N).toInt64), none, some (.long 0), none, some (.long 60), none], [.int (lg_cmp (nI N).toInt64 0)], hM0, 0, 0)) rfl ?_
    refine mEnds.brF (q' := (6, [some (.long (nI N).toInt64), none, some (.long 0), none, some (.long 60), none], [], hM0, 0, 0)) rfl (lgc_lt (c := 0) (by decide) f0) rfl ?_
    refine mEnds.steps 3 (q' := (10, [some (.long (nI N).toInt64), none, some (.long 0), none, some (.long 60), none], [.int (lg_cmp (nI N).toInt64 60)], hM0, 0, 0)) rfl ?_
    refine mEnds.brF (q' := (13, [some (.long (nI N).toInt64), none, some (.long 0), none, some (.long 60), none], [], hM0, 0, 0)) rfl (lgc_gt (c := 60) (by decide) f1) rfl ?_
    refine mEnds.steps 2 (q' := (18, [some (.long (nI N).toInt64), none, some (.long 0), none, some (.long 60), none], [.int 1], hM0, 0, 0)) rfl ?_
    exact mEnds.ret rfl
  show mEnds [] 20 154 (9, [some (.ref 1), some (.int (nI N)), some (.int 1), none], [.int 1], hM0, 0, 0) _
  refine mEnds.steps 5 (q' := (18, [some (.ref 1), some (.int (nI N)), some (.int 1), none], [.long 4, .long 0, .long 1], hM0, 0, 0)) rfl ?_
  refine mEnds.call (d := 19) (y' := 111) (as := [.long 1, .long 0, .long 4]) (q' := (21, [some (.ref 1), some (.int (nI N)), some (.int 1), none], [], hM0, 0, 0)) (v := some (.int 1)) (hs' := hM0) (c' := 0) (s' := 0) rfl rfl ?_ ?_
  · refine mEnds.steps 10 (q' := (18, [some (.long 1), none, some (.long 0), none, some (.long 4), none], [.int 1], hM0, 0, 0)) rfl ?_
    exact mEnds.ret rfl
  show mEnds [] 20 154 (21, [some (.ref 1), some (.int (nI N)), some (.int 1), none], [.int 1], hM0, 0, 0) _
  refine mEnds.steps 4 (q' := (29, [some (.ref 1), some (.int (nI N)), some (.int 1), none], [.int (nI N), .int 0, .ref 1], hM0, 0, 0)) rfl ?_
  refine mEnds.call (d := 19) (y' := 153) (as := [.ref 1, .int 0, .int (nI N)]) (q' := (32, [some (.ref 1), some (.int (nI N)), some (.int 1), none], [], hM0, 0, 0)) (v := some (.int 0)) (hs' := (hg N (tt N))) (c' := 0) (s' := 0) rfl rfl ?_ ?_
  · exact mEnds.deep (hgo hN) 1
  show mEnds [] 20 154 (32, [some (.ref 1), some (.int (nI N)), some (.int 1), none], [.int 0], (hg N (tt N)), 0, 0) _
  refine mEnds.steps 11 (q' := (81, [some (.ref 1), some (.int (nI N)), some (.int 1), some (.int 0)], [.int 0, .int 0], (hg N (tt N)), 0, 0)) rfl ?_
  refine mEnds.steps 1 (q' := (82, [some (.ref 1), some (.int (nI N)), some (.int 1), some (.int 0)], [.int 0], (hg N (tt N)), 0, 0)) rfl ?_
  exact mEnds.ret rfl
set_option maxRecDepth 100000 in
theorem c15_FFFFv2N (N : Nat) (hN : N ≤ 60)  (f0 : decide ((nI N) < 0) = false) (f1 : decide (60 < (nI N)) = false) : ∃ hs', mEnds [] 20 71 (mentry 71 [.ref 1, .int (nI N), .int 2] hC0) (some (.int 0), hs', 0, 0) := by
  refine ⟨(hk44 N), ?_⟩
  refine mEnds.steps 3 (q' := (4, [some (.ref 1), some (.int (nI N)), some (.int 2), none, none], [.int 60, .int 0, .int (nI N)], hC0, 0, 0)) rfl ?_
  refine mEnds.call (d := 19) (y' := 105) (as := [.int (nI N), .int 0, .int 60]) (q' := (7, [some (.ref 1), some (.int (nI N)), some (.int 2), none, none], [], hC0, 0, 0)) (v := some (.int 1)) (hs' := hC0) (c' := 0) (s' := 0) rfl rfl ?_ ?_
  · refine mEnds.steps 2 (q' := (2, [some (.int (nI N)), some (.int 0), some (.int 60)], [.int 0, .int (nI N)], hC0, 0, 0)) rfl ?_
    refine mEnds.brF (q' := (5, [some (.int (nI N)), some (.int 0), some (.int 60)], [], hC0, 0, 0)) rfl f0 rfl ?_
    refine mEnds.steps 2 (q' := (7, [some (.int (nI N)), some (.int 0), some (.int 60)], [.int 60, .int (nI N)], hC0, 0, 0)) rfl ?_
    refine mEnds.brF (q' := (10, [some (.int (nI N)), some (.int 0), some (.int 60)], [], hC0, 0, 0)) rfl f1 rfl ?_
    refine mEnds.steps 2 (q' := (15, [some (.int (nI N)), some (.int 0), some (.int 60)], [.int 1], hC0, 0, 0)) rfl ?_
    exact mEnds.ret rfl
  show mEnds [] 20 71 (7, [some (.ref 1), some (.int (nI N)), some (.int 2), none, none], [.int 1], hC0, 0, 0) _
  refine mEnds.steps 4 (q' := (13, [some (.ref 1), some (.int (nI N)), some (.int 2), none, none], [.int 4, .int 0, .int 2], hC0, 0, 0)) rfl ?_
  refine mEnds.call (d := 19) (y' := 105) (as := [.int 2, .int 0, .int 4]) (q' := (16, [some (.ref 1), some (.int (nI N)), some (.int 2), none, none], [], hC0, 0, 0)) (v := some (.int 1)) (hs' := hC0) (c' := 0) (s' := 0) rfl rfl ?_ ?_
  · refine mEnds.steps 8 (q' := (15, [some (.int 2), some (.int 0), some (.int 4)], [.int 1], hC0, 0, 0)) rfl ?_
    exact mEnds.ret rfl
  show mEnds [] 20 71 (16, [some (.ref 1), some (.int (nI N)), some (.int 2), none, none], [.int 1], hC0, 0, 0) _
  refine mEnds.steps 5 (q' := (48, [some (.ref 1), some (.int (nI N)), some (.int 2), none, none], [.ref 1], hC0, 0, 0)) rfl ?_
  refine mEnds.call (d := 19) (y' := 109) (as := [.ref 1]) (q' := (51, [some (.ref 1), some (.int (nI N)), some (.int 2), none, none], [], hC0, 0, 0)) (v := some (.ref 44)) (hs' := hC0) (c' := 0) (s' := 0) rfl rfl ?_ ?_
  · exact mEnds.deep cpn 9
  show mEnds [] 20 71 (51, [some (.ref 1), some (.int (nI N)), some (.int 2), none, none], [.ref 44], hC0, 0, 0) _
  refine mEnds.steps 3 (q' := (54, [some (.ref 1), some (.int (nI N)), some (.int 2), some (.ref 44), none], [.int (nI N), .ref 44], hC0, 0, 0)) rfl ?_
  refine mEnds.call (d := 19) (y' := 22) (as := [.ref 44, .int (nI N)]) (q' := (57, [some (.ref 1), some (.int (nI N)), some (.int 2), some (.ref 44), none], [], hC0, 0, 0)) (v := some (.int 0)) (hs' := (hk44 N)) (c' := 0) (s' := 0) rfl rfl ?_ ?_
  · exact mEnds.deep (ph44 hN) 1
  show mEnds [] 20 71 (57, [some (.ref 1), some (.int (nI N)), some (.int 2), some (.ref 44), none], [.int 0], (hk44 N), 0, 0) _
  refine mEnds.steps 4 (q' := (105, [some (.ref 1), some (.int (nI N)), some (.int 2), some (.ref 44), some (.int 0)], [.ref 44], (hk44 N), 0, 0)) rfl ?_
  refine mEnds.call (d := 19) (y' := 15) (as := [.ref 44]) (q' := (108, [some (.ref 1), some (.int (nI N)), some (.int 2), some (.ref 44), some (.int 0)], [], (hk44 N), 0, 0)) (v := some (.int 0)) (hs' := (hk44 N)) (c' := 0) (s' := 0) rfl rfl ?_ ?_
  · refine mEnds.steps 4 (q' := (8, [some (.ref 44)], [.int 0, .ref 45], (hk44 N), 0, 0)) rfl ?_
    refine mEnds.call (d := 18) (y' := 106) (as := [.ref 45, .int 0]) (q' := (11, [some (.ref 44)], [], (hk44 N), 0, 0)) (v := some (.int 0)) (hs' := (hk44 N)) (c' := 0) (s' := 0) rfl rfl ?_ ?_
    · refine mEnds.steps 8 (q' := (28, [some (.ref 45), some (.int 0), some (.int 0), some (.int 0)], [.int 0], (hk44 N), 0, 0)) rfl ?_
      exact mEnds.ret rfl
    show mEnds [] 19 15 (11, [some (.ref 44)], [.int 0], (hk44 N), 0, 0) _
    exact mEnds.ret rfl
  show mEnds [] 20 71 (108, [some (.ref 1), some (.int (nI N)), some (.int 2), some (.ref 44), some (.int 0)], [.int 0], (hk44 N), 0, 0) _
  exact mEnds.ret rfl
set_option maxRecDepth 100000 in
theorem m15_FFFFv2N (N : Nat) (hN : N ≤ 60)  (f0 : decide ((nI N) < 0) = false) (f1 : decide (60 < (nI N)) = false) : ∃ hs', mEnds [] 20 154 (mentry 154 [.ref 1, .int (nI N), .int 2] hM0) (some (.int 0), hs', 0, 0) := by
  refine ⟨(hg N (tt N)), ?_⟩
  refine mEnds.steps 4 (q' := (6, [some (.ref 1), some (.int (nI N)), some (.int 2), none], [.long 60, .long 0, .long (nI N).toInt64], hM0, 0, 0)) rfl ?_
  refine mEnds.call (d := 19) (y' := 111) (as := [.long (nI N).toInt64, .long 0, .long 60]) (q' := (9, [some (.ref 1), some (.int (nI N)), some (.int 2), none], [], hM0, 0, 0)) (v := some (.int 1)) (hs' := hM0) (c' := 0) (s' := 0) rfl rfl ?_ ?_
  · refine mEnds.steps 3 (q' := (3, [some (.long (nI N).toInt64), none, some (.long 0), none, some (.long 60), none], [.int (lg_cmp (nI N).toInt64 0)], hM0, 0, 0)) rfl ?_
    refine mEnds.brF (q' := (6, [some (.long (nI N).toInt64), none, some (.long 0), none, some (.long 60), none], [], hM0, 0, 0)) rfl (lgc_lt (c := 0) (by decide) f0) rfl ?_
    refine mEnds.steps 3 (q' := (10, [some (.long (nI N).toInt64), none, some (.long 0), none, some (.long 60), none], [.int (lg_cmp (nI N).toInt64 60)], hM0, 0, 0)) rfl ?_
    refine mEnds.brF (q' := (13, [some (.long (nI N).toInt64), none, some (.long 0), none, some (.long 60), none], [], hM0, 0, 0)) rfl (lgc_gt (c := 60) (by decide) f1) rfl ?_
    refine mEnds.steps 2 (q' := (18, [some (.long (nI N).toInt64), none, some (.long 0), none, some (.long 60), none], [.int 1], hM0, 0, 0)) rfl ?_
    exact mEnds.ret rfl
  show mEnds [] 20 154 (9, [some (.ref 1), some (.int (nI N)), some (.int 2), none], [.int 1], hM0, 0, 0) _
  refine mEnds.steps 5 (q' := (18, [some (.ref 1), some (.int (nI N)), some (.int 2), none], [.long 4, .long 0, .long 2], hM0, 0, 0)) rfl ?_
  refine mEnds.call (d := 19) (y' := 111) (as := [.long 2, .long 0, .long 4]) (q' := (21, [some (.ref 1), some (.int (nI N)), some (.int 2), none], [], hM0, 0, 0)) (v := some (.int 1)) (hs' := hM0) (c' := 0) (s' := 0) rfl rfl ?_ ?_
  · refine mEnds.steps 10 (q' := (18, [some (.long 2), none, some (.long 0), none, some (.long 4), none], [.int 1], hM0, 0, 0)) rfl ?_
    exact mEnds.ret rfl
  show mEnds [] 20 154 (21, [some (.ref 1), some (.int (nI N)), some (.int 2), none], [.int 1], hM0, 0, 0) _
  refine mEnds.steps 4 (q' := (29, [some (.ref 1), some (.int (nI N)), some (.int 2), none], [.int (nI N), .int 0, .ref 1], hM0, 0, 0)) rfl ?_
  refine mEnds.call (d := 19) (y' := 153) (as := [.ref 1, .int 0, .int (nI N)]) (q' := (32, [some (.ref 1), some (.int (nI N)), some (.int 2), none], [], hM0, 0, 0)) (v := some (.int 0)) (hs' := (hg N (tt N))) (c' := 0) (s' := 0) rfl rfl ?_ ?_
  · exact mEnds.deep (hgo hN) 1
  show mEnds [] 20 154 (32, [some (.ref 1), some (.int (nI N)), some (.int 2), none], [.int 0], (hg N (tt N)), 0, 0) _
  refine mEnds.steps 5 (q' := (87, [some (.ref 1), some (.int (nI N)), some (.int 2), some (.int 0)], [.int 208, .ref 1], (hg N (tt N)), 0, 0)) rfl ?_
  refine mEnds.call (d := 19) (y' := 135) (as := [.ref 1, .int 208]) (q' := (90, [some (.ref 1), some (.int (nI N)), some (.int 2), some (.int 0)], [], (hg N (tt N)), 0, 0)) (v := some (.int 0)) (hs' := (hg N (tt N))) (c' := 0) (s' := 0) rfl rfl ?_ ?_
  · refine mEnds.steps 9 (q' := (30, [some (.ref 1), some (.int 208), some (.int 0), some (.int 0)], [.int 0], (hg N (tt N)), 0, 0)) rfl ?_
    exact mEnds.ret rfl
  show mEnds [] 20 154 (90, [some (.ref 1), some (.int (nI N)), some (.int 2), some (.int 0)], [.int 0], (hg N (tt N)), 0, 0) _
  exact mEnds.ret rfl
set_option maxRecDepth 100000 in
theorem c15_FFFFv3N (N : Nat) (hN : N ≤ 60)  (f0 : decide ((nI N) < 0) = false) (f1 : decide (60 < (nI N)) = false) : ∃ hs', mEnds [] 20 71 (mentry 71 [.ref 1, .int (nI N), .int 3] hC0) (some (.int (-4)), hs', 0, 0) := by
  refine ⟨hC0, ?_⟩
  refine mEnds.steps 3 (q' := (4, [some (.ref 1), some (.int (nI N)), some (.int 3), none, none], [.int 60, .int 0, .int (nI N)], hC0, 0, 0)) rfl ?_
  refine mEnds.call (d := 19) (y' := 105) (as := [.int (nI N), .int 0, .int 60]) (q' := (7, [some (.ref 1), some (.int (nI N)), some (.int 3), none, none], [], hC0, 0, 0)) (v := some (.int 1)) (hs' := hC0) (c' := 0) (s' := 0) rfl rfl ?_ ?_
  · refine mEnds.steps 2 (q' := (2, [some (.int (nI N)), some (.int 0), some (.int 60)], [.int 0, .int (nI N)], hC0, 0, 0)) rfl ?_
    refine mEnds.brF (q' := (5, [some (.int (nI N)), some (.int 0), some (.int 60)], [], hC0, 0, 0)) rfl f0 rfl ?_
    refine mEnds.steps 2 (q' := (7, [some (.int (nI N)), some (.int 0), some (.int 60)], [.int 60, .int (nI N)], hC0, 0, 0)) rfl ?_
    refine mEnds.brF (q' := (10, [some (.int (nI N)), some (.int 0), some (.int 60)], [], hC0, 0, 0)) rfl f1 rfl ?_
    refine mEnds.steps 2 (q' := (15, [some (.int (nI N)), some (.int 0), some (.int 60)], [.int 1], hC0, 0, 0)) rfl ?_
    exact mEnds.ret rfl
  show mEnds [] 20 71 (7, [some (.ref 1), some (.int (nI N)), some (.int 3), none, none], [.int 1], hC0, 0, 0) _
  refine mEnds.steps 4 (q' := (13, [some (.ref 1), some (.int (nI N)), some (.int 3), none, none], [.int 4, .int 0, .int 3], hC0, 0, 0)) rfl ?_
  refine mEnds.call (d := 19) (y' := 105) (as := [.int 3, .int 0, .int 4]) (q' := (16, [some (.ref 1), some (.int (nI N)), some (.int 3), none, none], [], hC0, 0, 0)) (v := some (.int 1)) (hs' := hC0) (c' := 0) (s' := 0) rfl rfl ?_ ?_
  · refine mEnds.steps 8 (q' := (15, [some (.int 3), some (.int 0), some (.int 4)], [.int 1], hC0, 0, 0)) rfl ?_
    exact mEnds.ret rfl
  show mEnds [] 20 71 (16, [some (.ref 1), some (.int (nI N)), some (.int 3), none, none], [.int 1], hC0, 0, 0) _
  refine mEnds.steps 10 (q' := (46, [some (.ref 1), some (.int (nI N)), some (.int 3), none, none], [.int (-4)], hC0, 0, 0)) rfl ?_
  exact mEnds.ret rfl
set_option maxRecDepth 100000 in
theorem m15_FFFFv3N (N : Nat) (hN : N ≤ 60)  (f0 : decide ((nI N) < 0) = false) (f1 : decide (60 < (nI N)) = false) : ∃ hs', mEnds [] 20 154 (mentry 154 [.ref 1, .int (nI N), .int 3] hM0) (some (.int (-4)), hs', 0, 0) := by
  refine ⟨(hg N (tt N)), ?_⟩
  refine mEnds.steps 4 (q' := (6, [some (.ref 1), some (.int (nI N)), some (.int 3), none], [.long 60, .long 0, .long (nI N).toInt64], hM0, 0, 0)) rfl ?_
  refine mEnds.call (d := 19) (y' := 111) (as := [.long (nI N).toInt64, .long 0, .long 60]) (q' := (9, [some (.ref 1), some (.int (nI N)), some (.int 3), none], [], hM0, 0, 0)) (v := some (.int 1)) (hs' := hM0) (c' := 0) (s' := 0) rfl rfl ?_ ?_
  · refine mEnds.steps 3 (q' := (3, [some (.long (nI N).toInt64), none, some (.long 0), none, some (.long 60), none], [.int (lg_cmp (nI N).toInt64 0)], hM0, 0, 0)) rfl ?_
    refine mEnds.brF (q' := (6, [some (.long (nI N).toInt64), none, some (.long 0), none, some (.long 60), none], [], hM0, 0, 0)) rfl (lgc_lt (c := 0) (by decide) f0) rfl ?_
    refine mEnds.steps 3 (q' := (10, [some (.long (nI N).toInt64), none, some (.long 0), none, some (.long 60), none], [.int (lg_cmp (nI N).toInt64 60)], hM0, 0, 0)) rfl ?_
    refine mEnds.brF (q' := (13, [some (.long (nI N).toInt64), none, some (.long 0), none, some (.long 60), none], [], hM0, 0, 0)) rfl (lgc_gt (c := 60) (by decide) f1) rfl ?_
    refine mEnds.steps 2 (q' := (18, [some (.long (nI N).toInt64), none, some (.long 0), none, some (.long 60), none], [.int 1], hM0, 0, 0)) rfl ?_
    exact mEnds.ret rfl
  show mEnds [] 20 154 (9, [some (.ref 1), some (.int (nI N)), some (.int 3), none], [.int 1], hM0, 0, 0) _
  refine mEnds.steps 5 (q' := (18, [some (.ref 1), some (.int (nI N)), some (.int 3), none], [.long 4, .long 0, .long 3], hM0, 0, 0)) rfl ?_
  refine mEnds.call (d := 19) (y' := 111) (as := [.long 3, .long 0, .long 4]) (q' := (21, [some (.ref 1), some (.int (nI N)), some (.int 3), none], [], hM0, 0, 0)) (v := some (.int 1)) (hs' := hM0) (c' := 0) (s' := 0) rfl rfl ?_ ?_
  · refine mEnds.steps 10 (q' := (18, [some (.long 3), none, some (.long 0), none, some (.long 4), none], [.int 1], hM0, 0, 0)) rfl ?_
    exact mEnds.ret rfl
  show mEnds [] 20 154 (21, [some (.ref 1), some (.int (nI N)), some (.int 3), none], [.int 1], hM0, 0, 0) _
  refine mEnds.steps 4 (q' := (29, [some (.ref 1), some (.int (nI N)), some (.int 3), none], [.int (nI N), .int 0, .ref 1], hM0, 0, 0)) rfl ?_
  refine mEnds.call (d := 19) (y' := 153) (as := [.ref 1, .int 0, .int (nI N)]) (q' := (32, [some (.ref 1), some (.int (nI N)), some (.int 3), none], [], hM0, 0, 0)) (v := some (.int 0)) (hs' := (hg N (tt N))) (c' := 0) (s' := 0) rfl rfl ?_ ?_
  · exact mEnds.deep (hgo hN) 1
  show mEnds [] 20 154 (32, [some (.ref 1), some (.int (nI N)), some (.int 3), none], [.int 0], (hg N (tt N)), 0, 0) _
  refine mEnds.steps 5 (q' := (95, [some (.ref 1), some (.int (nI N)), some (.int 3), some (.int 0)], [.int (-4)], (hg N (tt N)), 0, 0)) rfl ?_
  exact mEnds.ret rfl
set_option maxRecDepth 100000 in
theorem c15_FFFFv4N (N : Nat) (hN : N ≤ 60)  (f0 : decide ((nI N) < 0) = false) (f1 : decide (60 < (nI N)) = false) : ∃ hs', mEnds [] 20 71 (mentry 71 [.ref 1, .int (nI N), .int 4] hC0) (some (.int 0), hs', 0, 0) := by
  refine ⟨(hk44 N), ?_⟩
  refine mEnds.steps 3 (q' := (4, [some (.ref 1), some (.int (nI N)), some (.int 4), none, none], [.int 60, .int 0, .int (nI N)], hC0, 0, 0)) rfl ?_
  refine mEnds.call (d := 19) (y' := 105) (as := [.int (nI N), .int 0, .int 60]) (q' := (7, [some (.ref 1), some (.int (nI N)), some (.int 4), none, none], [], hC0, 0, 0)) (v := some (.int 1)) (hs' := hC0) (c' := 0) (s' := 0) rfl rfl ?_ ?_
  · refine mEnds.steps 2 (q' := (2, [some (.int (nI N)), some (.int 0), some (.int 60)], [.int 0, .int (nI N)], hC0, 0, 0)) rfl ?_
    refine mEnds.brF (q' := (5, [some (.int (nI N)), some (.int 0), some (.int 60)], [], hC0, 0, 0)) rfl f0 rfl ?_
    refine mEnds.steps 2 (q' := (7, [some (.int (nI N)), some (.int 0), some (.int 60)], [.int 60, .int (nI N)], hC0, 0, 0)) rfl ?_
    refine mEnds.brF (q' := (10, [some (.int (nI N)), some (.int 0), some (.int 60)], [], hC0, 0, 0)) rfl f1 rfl ?_
    refine mEnds.steps 2 (q' := (15, [some (.int (nI N)), some (.int 0), some (.int 60)], [.int 1], hC0, 0, 0)) rfl ?_
    exact mEnds.ret rfl
  show mEnds [] 20 71 (7, [some (.ref 1), some (.int (nI N)), some (.int 4), none, none], [.int 1], hC0, 0, 0) _
  refine mEnds.steps 4 (q' := (13, [some (.ref 1), some (.int (nI N)), some (.int 4), none, none], [.int 4, .int 0, .int 4], hC0, 0, 0)) rfl ?_
  refine mEnds.call (d := 19) (y' := 105) (as := [.int 4, .int 0, .int 4]) (q' := (16, [some (.ref 1), some (.int (nI N)), some (.int 4), none, none], [], hC0, 0, 0)) (v := some (.int 1)) (hs' := hC0) (c' := 0) (s' := 0) rfl rfl ?_ ?_
  · refine mEnds.steps 8 (q' := (15, [some (.int 4), some (.int 0), some (.int 4)], [.int 1], hC0, 0, 0)) rfl ?_
    exact mEnds.ret rfl
  show mEnds [] 20 71 (16, [some (.ref 1), some (.int (nI N)), some (.int 4), none, none], [.int 1], hC0, 0, 0) _
  refine mEnds.steps 5 (q' := (48, [some (.ref 1), some (.int (nI N)), some (.int 4), none, none], [.ref 1], hC0, 0, 0)) rfl ?_
  refine mEnds.call (d := 19) (y' := 109) (as := [.ref 1]) (q' := (51, [some (.ref 1), some (.int (nI N)), some (.int 4), none, none], [], hC0, 0, 0)) (v := some (.ref 44)) (hs' := hC0) (c' := 0) (s' := 0) rfl rfl ?_ ?_
  · exact mEnds.deep cpn 9
  show mEnds [] 20 71 (51, [some (.ref 1), some (.int (nI N)), some (.int 4), none, none], [.ref 44], hC0, 0, 0) _
  refine mEnds.steps 3 (q' := (54, [some (.ref 1), some (.int (nI N)), some (.int 4), some (.ref 44), none], [.int (nI N), .ref 44], hC0, 0, 0)) rfl ?_
  refine mEnds.call (d := 19) (y' := 22) (as := [.ref 44, .int (nI N)]) (q' := (57, [some (.ref 1), some (.int (nI N)), some (.int 4), some (.ref 44), none], [], hC0, 0, 0)) (v := some (.int 0)) (hs' := (hk44 N)) (c' := 0) (s' := 0) rfl rfl ?_ ?_
  · exact mEnds.deep (ph44 hN) 1
  show mEnds [] 20 71 (57, [some (.ref 1), some (.int (nI N)), some (.int 4), some (.ref 44), none], [.int 0], (hk44 N), 0, 0) _
  refine mEnds.steps 5 (q' := (113, [some (.ref 1), some (.int (nI N)), some (.int 4), some (.ref 44), some (.int 0)], [.int 0], (hk44 N), 0, 0)) rfl ?_
  exact mEnds.ret rfl
set_option maxRecDepth 100000 in
theorem m15_FFFFv4N (N : Nat) (hN : N ≤ 60)  (f0 : decide ((nI N) < 0) = false) (f1 : decide (60 < (nI N)) = false) : ∃ hs', mEnds [] 20 154 (mentry 154 [.ref 1, .int (nI N), .int 4] hM0) (some (.int 0), hs', 0, 0) := by
  refine ⟨(hg N (tt N)), ?_⟩
  refine mEnds.steps 4 (q' := (6, [some (.ref 1), some (.int (nI N)), some (.int 4), none], [.long 60, .long 0, .long (nI N).toInt64], hM0, 0, 0)) rfl ?_
  refine mEnds.call (d := 19) (y' := 111) (as := [.long (nI N).toInt64, .long 0, .long 60]) (q' := (9, [some (.ref 1), some (.int (nI N)), some (.int 4), none], [], hM0, 0, 0)) (v := some (.int 1)) (hs' := hM0) (c' := 0) (s' := 0) rfl rfl ?_ ?_
  · refine mEnds.steps 3 (q' := (3, [some (.long (nI N).toInt64), none, some (.long 0), none, some (.long 60), none], [.int (lg_cmp (nI N).toInt64 0)], hM0, 0, 0)) rfl ?_
    refine mEnds.brF (q' := (6, [some (.long (nI N).toInt64), none, some (.long 0), none, some (.long 60), none], [], hM0, 0, 0)) rfl (lgc_lt (c := 0) (by decide) f0) rfl ?_
    refine mEnds.steps 3 (q' := (10, [some (.long (nI N).toInt64), none, some (.long 0), none, some (.long 60), none], [.int (lg_cmp (nI N).toInt64 60)], hM0, 0, 0)) rfl ?_
    refine mEnds.brF (q' := (13, [some (.long (nI N).toInt64), none, some (.long 0), none, some (.long 60), none], [], hM0, 0, 0)) rfl (lgc_gt (c := 60) (by decide) f1) rfl ?_
    refine mEnds.steps 2 (q' := (18, [some (.long (nI N).toInt64), none, some (.long 0), none, some (.long 60), none], [.int 1], hM0, 0, 0)) rfl ?_
    exact mEnds.ret rfl
  show mEnds [] 20 154 (9, [some (.ref 1), some (.int (nI N)), some (.int 4), none], [.int 1], hM0, 0, 0) _
  refine mEnds.steps 5 (q' := (18, [some (.ref 1), some (.int (nI N)), some (.int 4), none], [.long 4, .long 0, .long 4], hM0, 0, 0)) rfl ?_
  refine mEnds.call (d := 19) (y' := 111) (as := [.long 4, .long 0, .long 4]) (q' := (21, [some (.ref 1), some (.int (nI N)), some (.int 4), none], [], hM0, 0, 0)) (v := some (.int 1)) (hs' := hM0) (c' := 0) (s' := 0) rfl rfl ?_ ?_
  · refine mEnds.steps 10 (q' := (18, [some (.long 4), none, some (.long 0), none, some (.long 4), none], [.int 1], hM0, 0, 0)) rfl ?_
    exact mEnds.ret rfl
  show mEnds [] 20 154 (21, [some (.ref 1), some (.int (nI N)), some (.int 4), none], [.int 1], hM0, 0, 0) _
  refine mEnds.steps 4 (q' := (29, [some (.ref 1), some (.int (nI N)), some (.int 4), none], [.int (nI N), .int 0, .ref 1], hM0, 0, 0)) rfl ?_
  refine mEnds.call (d := 19) (y' := 153) (as := [.ref 1, .int 0, .int (nI N)]) (q' := (32, [some (.ref 1), some (.int (nI N)), some (.int 4), none], [], hM0, 0, 0)) (v := some (.int 0)) (hs' := (hg N (tt N))) (c' := 0) (s' := 0) rfl rfl ?_ ?_
  · exact mEnds.deep (hgo hN) 1
  show mEnds [] 20 154 (32, [some (.ref 1), some (.int (nI N)), some (.int 4), none], [.int 0], (hg N (tt N)), 0, 0) _
  refine mEnds.steps 5 (q' := (100, [some (.ref 1), some (.int (nI N)), some (.int 4), some (.int 0)], [.int 208, .ref 1], (hg N (tt N)), 0, 0)) rfl ?_
  refine mEnds.call (d := 19) (y' := 136) (as := [.ref 1, .int 208]) (q' := (103, [some (.ref 1), some (.int (nI N)), some (.int 4), some (.int 0)], [], (hg N (tt N)), 0, 0)) (v := some (.int 0)) (hs' := (hg N (tt N))) (c' := 0) (s' := 0) rfl rfl ?_ ?_
  · refine mEnds.steps 9 (q' := (35, [some (.ref 1), some (.int 208), some (.int 0), some (.int 0)], [.int 0], (hg N (tt N)), 0, 0)) rfl ?_
    exact mEnds.ret rfl
  show mEnds [] 20 154 (103, [some (.ref 1), some (.int (nI N)), some (.int 4), some (.int 0)], [.int 0], (hg N (tt N)), 0, 0) _
  exact mEnds.ret rfl
theorem ok_15 (x1 x2 x3 x4 x5 : Int32) : callOK_15 x1 x2 x3 x4 x5 := by
  cases f0 : decide (x1 < 0) with
  | true =>
    obtain ⟨h1, a1⟩ := c15_T x1 x2 f0
    obtain ⟨h2, a2⟩ := m15_T x1 x2 f0
    exact ⟨_, h1, h2, a1, a2⟩
  | false =>
    cases f1 : decide (60 < x1) with
    | true =>
      obtain ⟨h1, a1⟩ := c15_FT x1 x2 f0 f1
      obtain ⟨h2, a2⟩ := m15_FT x1 x2 f0 f1
      exact ⟨_, h1, h2, a1, a2⟩
    | false =>
      cases f2 : decide (x2 < 0) with
      | true =>
        obtain ⟨h1, a1⟩ := c15_FFT x1 x2 f0 f1 f2
        obtain ⟨h2, a2⟩ := m15_FFT x1 x2 f0 f1 f2
        exact ⟨_, h1, h2, a1, a2⟩
      | false =>
        cases f3 : decide (4 < x2) with
        | true =>
          obtain ⟨h1, a1⟩ := c15_FFFT x1 x2 f0 f1 f2 f3
          obtain ⟨h2, a2⟩ := m15_FFFT x1 x2 f0 f1 f2 f3
          exact ⟨_, h1, h2, a1, a2⟩
        | false =>
          obtain ⟨k4, hk4, ek4⟩ := i32_rng (n := 5) f2 f3 (by decide)
          clear f2 f3
          match k4, hk4, ek4 with
          | 0, _, e =>
            obtain rfl := i32_at (c := 0) e (by decide)
            obtain ⟨N, hN, eN⟩ := i32_rng (n := 61) f0 f1 (by decide)
            obtain rfl := i32_nI eN (by omega)
            replace hN : N ≤ 60 := by omega
            clear eN
            obtain ⟨h1, a1⟩ := c15_FFFFv0N N hN f0 f1
            obtain ⟨h2, a2⟩ := m15_FFFFv0N N hN f0 f1
            exact ⟨_, h1, h2, a1, a2⟩
          | 1, _, e =>
            obtain rfl := i32_at (c := 1) e (by decide)
            obtain ⟨N, hN, eN⟩ := i32_rng (n := 61) f0 f1 (by decide)
            obtain rfl := i32_nI eN (by omega)
            replace hN : N ≤ 60 := by omega
            clear eN
            obtain ⟨h1, a1⟩ := c15_FFFFv1N N hN f0 f1
            obtain ⟨h2, a2⟩ := m15_FFFFv1N N hN f0 f1
            exact ⟨_, h1, h2, a1, a2⟩
          | 2, _, e =>
            obtain rfl := i32_at (c := 2) e (by decide)
            obtain ⟨N, hN, eN⟩ := i32_rng (n := 61) f0 f1 (by decide)
            obtain rfl := i32_nI eN (by omega)
            replace hN : N ≤ 60 := by omega
            clear eN
            obtain ⟨h1, a1⟩ := c15_FFFFv2N N hN f0 f1
            obtain ⟨h2, a2⟩ := m15_FFFFv2N N hN f0 f1
            exact ⟨_, h1, h2, a1, a2⟩
          | 3, _, e =>
            obtain rfl := i32_at (c := 3) e (by decide)
            obtain ⟨N, hN, eN⟩ := i32_rng (n := 61) f0 f1 (by decide)
            obtain rfl := i32_nI eN (by omega)
            replace hN : N ≤ 60 := by omega
            clear eN
            obtain ⟨h1, a1⟩ := c15_FFFFv3N N hN f0 f1
            obtain ⟨h2, a2⟩ := m15_FFFFv3N N hN f0 f1
            exact ⟨_, h1, h2, a1, a2⟩
          | 4, _, e =>
            obtain rfl := i32_at (c := 4) e (by decide)
            obtain ⟨N, hN, eN⟩ := i32_rng (n := 61) f0 f1 (by decide)
            obtain rfl := i32_nI eN (by omega)
            replace hN : N ≤ 60 := by omega
            clear eN
            obtain ⟨h1, a1⟩ := c15_FFFFv4N N hN f0 f1
            obtain ⟨h2, a2⟩ := m15_FFFFv4N N hN f0 f1
            exact ⟨_, h1, h2, a1, a2⟩
          | k + 5, h, _ => exact absurd h (by omega)
set_option maxRecDepth 100000 in
theorem c21_T (x1 x2 : Int32) (f0 : decide (x1 < 0) = true) : ∃ hs', mEnds [] 20 78 (mentry 78 [.ref 1, .int x1, .int x2] hC0) (some (.int (-1)), hs', 0, 0) := by
  refine ⟨hC0, ?_⟩
  refine mEnds.steps 3 (q' := (4, [some (.ref 1), some (.int x1), some (.int x2), none, none, none, none, none, none], [.int 60, .int 0, .int x1], hC0, 0, 0)) rfl ?_
  refine mEnds.call (d := 19) (y' := 105) (as := [.int x1, .int 0, .int 60]) (q' := (7, [some (.ref 1), some (.int x1), some (.int x2), none, none, none, none, none, none], [], hC0, 0, 0)) (v := some (.int 0)) (hs' := hC0) (c' := 0) (s' := 0) rfl rfl ?_ ?_
  · refine mEnds.steps 2 (q' := (2, [some (.int x1), some (.int 0), some (.int 60)], [.int 0, .int x1], hC0, 0, 0)) rfl ?_
    refine mEnds.brT (q' := (14, [some (.int x1), some (.int 0), some (.int 60)], [], hC0, 0, 0)) rfl f0 rfl ?_
    refine mEnds.steps 1 (q' := (15, [some (.int x1), some (.int 0), some (.int 60)], [.int 0], hC0, 0, 0)) rfl ?_
    exact mEnds.ret rfl
  show mEnds [] 20 78 (7, [some (.ref 1), some (.int x1), some (.int x2), none, none, none, none, none, none], [.int 0], hC0, 0, 0) _
  refine mEnds.steps 2 (q' := (20, [some (.ref 1), some (.int x1), some (.int x2), none, none, none, none, none, none], [.int (-1)], hC0, 0, 0)) rfl ?_
  exact mEnds.ret rfl
set_option maxRecDepth 100000 in
theorem m21_T (x1 x2 : Int32) (f0 : decide (x1 < 0) = true) : ∃ hs', mEnds [] 20 161 (mentry 161 [.ref 1, .int x1, .int x2] hM0) (some (.int (-1)), hs', 0, 0) := by
  refine ⟨hM0, ?_⟩
  refine mEnds.steps 4 (q' := (6, [some (.ref 1), some (.int x1), some (.int x2), none, none, none, none, none], [.long 60, .long 0, .long x1.toInt64], hM0, 0, 0)) rfl ?_
  refine mEnds.call (d := 19) (y' := 111) (as := [.long x1.toInt64, .long 0, .long 60]) (q' := (9, [some (.ref 1), some (.int x1), some (.int x2), none, none, none, none, none], [], hM0, 0, 0)) (v := some (.int 0)) (hs' := hM0) (c' := 0) (s' := 0) rfl rfl ?_ ?_
  · refine mEnds.steps 3 (q' := (3, [some (.long x1.toInt64), none, some (.long 0), none, some (.long 60), none], [.int (lg_cmp x1.toInt64 0)], hM0, 0, 0)) rfl ?_
    refine mEnds.brT (q' := (17, [some (.long x1.toInt64), none, some (.long 0), none, some (.long 60), none], [], hM0, 0, 0)) rfl (lgc_lt (c := 0) (by decide) f0) rfl ?_
    refine mEnds.steps 1 (q' := (18, [some (.long x1.toInt64), none, some (.long 0), none, some (.long 60), none], [.int 0], hM0, 0, 0)) rfl ?_
    exact mEnds.ret rfl
  show mEnds [] 20 161 (9, [some (.ref 1), some (.int x1), some (.int x2), none, none, none, none, none], [.int 0], hM0, 0, 0) _
  refine mEnds.steps 2 (q' := (23, [some (.ref 1), some (.int x1), some (.int x2), none, none, none, none, none], [.int (-1)], hM0, 0, 0)) rfl ?_
  exact mEnds.ret rfl
set_option maxRecDepth 100000 in
theorem c21_FT (x1 x2 : Int32) (f0 : decide (x1 < 0) = false) (f1 : decide (60 < x1) = true) : ∃ hs', mEnds [] 20 78 (mentry 78 [.ref 1, .int x1, .int x2] hC0) (some (.int (-1)), hs', 0, 0) := by
  refine ⟨hC0, ?_⟩
  refine mEnds.steps 3 (q' := (4, [some (.ref 1), some (.int x1), some (.int x2), none, none, none, none, none, none], [.int 60, .int 0, .int x1], hC0, 0, 0)) rfl ?_
  refine mEnds.call (d := 19) (y' := 105) (as := [.int x1, .int 0, .int 60]) (q' := (7, [some (.ref 1), some (.int x1), some (.int x2), none, none, none, none, none, none], [], hC0, 0, 0)) (v := some (.int 0)) (hs' := hC0) (c' := 0) (s' := 0) rfl rfl ?_ ?_
  · refine mEnds.steps 2 (q' := (2, [some (.int x1), some (.int 0), some (.int 60)], [.int 0, .int x1], hC0, 0, 0)) rfl ?_
    refine mEnds.brF (q' := (5, [some (.int x1), some (.int 0), some (.int 60)], [], hC0, 0, 0)) rfl f0 rfl ?_
    refine mEnds.steps 2 (q' := (7, [some (.int x1), some (.int 0), some (.int 60)], [.int 60, .int x1], hC0, 0, 0)) rfl ?_
    refine mEnds.brT (q' := (14, [some (.int x1), some (.int 0), some (.int 60)], [], hC0, 0, 0)) rfl f1 rfl ?_
    refine mEnds.steps 1 (q' := (15, [some (.int x1), some (.int 0), some (.int 60)], [.int 0], hC0, 0, 0)) rfl ?_
    exact mEnds.ret rfl
  show mEnds [] 20 78 (7, [some (.ref 1), some (.int x1), some (.int x2), none, none, none, none, none, none], [.int 0], hC0, 0, 0) _
  refine mEnds.steps 2 (q' := (20, [some (.ref 1), some (.int x1), some (.int x2), none, none, none, none, none, none], [.int (-1)], hC0, 0, 0)) rfl ?_
  exact mEnds.ret rfl
set_option maxRecDepth 100000 in
theorem m21_FT (x1 x2 : Int32) (f0 : decide (x1 < 0) = false) (f1 : decide (60 < x1) = true) : ∃ hs', mEnds [] 20 161 (mentry 161 [.ref 1, .int x1, .int x2] hM0) (some (.int (-1)), hs', 0, 0) := by
  refine ⟨hM0, ?_⟩
  refine mEnds.steps 4 (q' := (6, [some (.ref 1), some (.int x1), some (.int x2), none, none, none, none, none], [.long 60, .long 0, .long x1.toInt64], hM0, 0, 0)) rfl ?_
  refine mEnds.call (d := 19) (y' := 111) (as := [.long x1.toInt64, .long 0, .long 60]) (q' := (9, [some (.ref 1), some (.int x1), some (.int x2), none, none, none, none, none], [], hM0, 0, 0)) (v := some (.int 0)) (hs' := hM0) (c' := 0) (s' := 0) rfl rfl ?_ ?_
  · refine mEnds.steps 3 (q' := (3, [some (.long x1.toInt64), none, some (.long 0), none, some (.long 60), none], [.int (lg_cmp x1.toInt64 0)], hM0, 0, 0)) rfl ?_
    refine mEnds.brF (q' := (6, [some (.long x1.toInt64), none, some (.long 0), none, some (.long 60), none], [], hM0, 0, 0)) rfl (lgc_lt (c := 0) (by decide) f0) rfl ?_
    refine mEnds.steps 3 (q' := (10, [some (.long x1.toInt64), none, some (.long 0), none, some (.long 60), none], [.int (lg_cmp x1.toInt64 60)], hM0, 0, 0)) rfl ?_
    refine mEnds.brT (q' := (17, [some (.long x1.toInt64), none, some (.long 0), none, some (.long 60), none], [], hM0, 0, 0)) rfl (lgc_gt (c := 60) (by decide) f1) rfl ?_
    refine mEnds.steps 1 (q' := (18, [some (.long x1.toInt64), none, some (.long 0), none, some (.long 60), none], [.int 0], hM0, 0, 0)) rfl ?_
    exact mEnds.ret rfl
  show mEnds [] 20 161 (9, [some (.ref 1), some (.int x1), some (.int x2), none, none, none, none, none], [.int 0], hM0, 0, 0) _
  refine mEnds.steps 2 (q' := (23, [some (.ref 1), some (.int x1), some (.int x2), none, none, none, none, none], [.int (-1)], hM0, 0, 0)) rfl ?_
  exact mEnds.ret rfl
set_option maxRecDepth 100000 in
theorem c21_FFT (x1 x2 : Int32) (f0 : decide (x1 < 0) = false) (f1 : decide (60 < x1) = false) (f2 : decide (x2 < 0) = true) : ∃ hs', mEnds [] 20 78 (mentry 78 [.ref 1, .int x1, .int x2] hC0) (some (.int (-1)), hs', 0, 0) := by
  refine ⟨hC0, ?_⟩
  refine mEnds.steps 3 (q' := (4, [some (.ref 1), some (.int x1), some (.int x2), none, none, none, none, none, none], [.int 60, .int 0, .int x1], hC0, 0, 0)) rfl ?_
  refine mEnds.call (d := 19) (y' := 105) (as := [.int x1, .int 0, .int 60]) (q' := (7, [some (.ref 1), some (.int x1), some (.int x2), none, none, none, none, none, none], [], hC0, 0, 0)) (v := some (.int 1)) (hs' := hC0) (c' := 0) (s' := 0) rfl rfl ?_ ?_
  · refine mEnds.steps 2 (q' := (2, [some (.int x1), some (.int 0), some (.int 60)], [.int 0, .int x1], hC0, 0, 0)) rfl ?_
    refine mEnds.brF (q' := (5, [some (.int x1), some (.int 0), some (.int 60)], [], hC0, 0, 0)) rfl f0 rfl ?_
    refine mEnds.steps 2 (q' := (7, [some (.int x1), some (.int 0), some (.int 60)], [.int 60, .int x1], hC0, 0, 0)) rfl ?_
    refine mEnds.brF (q' := (10, [some (.int x1), some (.int 0), some (.int 60)], [], hC0, 0, 0)) rfl f1 rfl ?_
    refine mEnds.steps 2 (q' := (15, [some (.int x1), some (.int 0), some (.int 60)], [.int 1], hC0, 0, 0)) rfl ?_
    exact mEnds.ret rfl
  show mEnds [] 20 78 (7, [some (.ref 1), some (.int x1), some (.int x2), none, none, none, none, none, none], [.int 1], hC0, 0, 0) _
  refine mEnds.steps 4 (q' := (13, [some (.ref 1), some (.int x1), some (.int x2), none, none, none, none, none, none], [.int 1, .int 0, .int x2], hC0, 0, 0)) rfl ?_
  refine mEnds.call (d := 19) (y' := 105) (as := [.int x2, .int 0, .int 1]) (q' := (16, [some (.ref 1), some (.int x1), some (.int x2), none, none, none, none, none, none], [], hC0, 0, 0)) (v := some (.int 0)) (hs' := hC0) (c' := 0) (s' := 0) rfl rfl ?_ ?_
  · refine mEnds.steps 2 (q' := (2, [some (.int x2), some (.int 0), some (.int 1)], [.int 0, .int x2], hC0, 0, 0)) rfl ?_
    refine mEnds.brT (q' := (14, [some (.int x2), some (.int 0), some (.int 1)], [], hC0, 0, 0)) rfl f2 rfl ?_
    refine mEnds.steps 1 (q' := (15, [some (.int x2), some (.int 0), some (.int 1)], [.int 0], hC0, 0, 0)) rfl ?_
    exact mEnds.ret rfl
  show mEnds [] 20 78 (16, [some (.ref 1), some (.int x1), some (.int x2), none, none, none, none, none, none], [.int 0], hC0, 0, 0) _
  refine mEnds.steps 2 (q' := (20, [some (.ref 1), some (.int x1), some (.int x2), none, none, none, none, none, none], [.int (-1)], hC0, 0, 0)) rfl ?_
  exact mEnds.ret rfl
set_option maxRecDepth 100000 in
theorem m21_FFT (x1 x2 : Int32) (f0 : decide (x1 < 0) = false) (f1 : decide (60 < x1) = false) (f2 : decide (x2 < 0) = true) : ∃ hs', mEnds [] 20 161 (mentry 161 [.ref 1, .int x1, .int x2] hM0) (some (.int (-1)), hs', 0, 0) := by
  refine ⟨hM0, ?_⟩
  refine mEnds.steps 4 (q' := (6, [some (.ref 1), some (.int x1), some (.int x2), none, none, none, none, none], [.long 60, .long 0, .long x1.toInt64], hM0, 0, 0)) rfl ?_
  refine mEnds.call (d := 19) (y' := 111) (as := [.long x1.toInt64, .long 0, .long 60]) (q' := (9, [some (.ref 1), some (.int x1), some (.int x2), none, none, none, none, none], [], hM0, 0, 0)) (v := some (.int 1)) (hs' := hM0) (c' := 0) (s' := 0) rfl rfl ?_ ?_
  · refine mEnds.steps 3 (q' := (3, [some (.long x1.toInt64), none, some (.long 0), none, some (.long 60), none], [.int (lg_cmp x1.toInt64 0)], hM0, 0, 0)) rfl ?_
    refine mEnds.brF (q' := (6, [some (.long x1.toInt64), none, some (.long 0), none, some (.long 60), none], [], hM0, 0, 0)) rfl (lgc_lt (c := 0) (by decide) f0) rfl ?_
    refine mEnds.steps 3 (q' := (10, [some (.long x1.toInt64), none, some (.long 0), none, some (.long 60), none], [.int (lg_cmp x1.toInt64 60)], hM0, 0, 0)) rfl ?_
    refine mEnds.brF (q' := (13, [some (.long x1.toInt64), none, some (.long 0), none, some (.long 60), none], [], hM0, 0, 0)) rfl (lgc_gt (c := 60) (by decide) f1) rfl ?_
    refine mEnds.steps 2 (q' := (18, [some (.long x1.toInt64), none, some (.long 0), none, some (.long 60), none], [.int 1], hM0, 0, 0)) rfl ?_
    exact mEnds.ret rfl
  show mEnds [] 20 161 (9, [some (.ref 1), some (.int x1), some (.int x2), none, none, none, none, none], [.int 1], hM0, 0, 0) _
  refine mEnds.steps 5 (q' := (16, [some (.ref 1), some (.int x1), some (.int x2), none, none, none, none, none], [.long 1, .long 0, .long x2.toInt64], hM0, 0, 0)) rfl ?_
  refine mEnds.call (d := 19) (y' := 111) (as := [.long x2.toInt64, .long 0, .long 1]) (q' := (19, [some (.ref 1), some (.int x1), some (.int x2), none, none, none, none, none], [], hM0, 0, 0)) (v := some (.int 0)) (hs' := hM0) (c' := 0) (s' := 0) rfl rfl ?_ ?_
  · refine mEnds.steps 3 (q' := (3, [some (.long x2.toInt64), none, some (.long 0), none, some (.long 1), none], [.int (lg_cmp x2.toInt64 0)], hM0, 0, 0)) rfl ?_
    refine mEnds.brT (q' := (17, [some (.long x2.toInt64), none, some (.long 0), none, some (.long 1), none], [], hM0, 0, 0)) rfl (lgc_lt (c := 0) (by decide) f2) rfl ?_
    refine mEnds.steps 1 (q' := (18, [some (.long x2.toInt64), none, some (.long 0), none, some (.long 1), none], [.int 0], hM0, 0, 0)) rfl ?_
    exact mEnds.ret rfl
  show mEnds [] 20 161 (19, [some (.ref 1), some (.int x1), some (.int x2), none, none, none, none, none], [.int 0], hM0, 0, 0) _
  refine mEnds.steps 2 (q' := (23, [some (.ref 1), some (.int x1), some (.int x2), none, none, none, none, none], [.int (-1)], hM0, 0, 0)) rfl ?_
  exact mEnds.ret rfl
set_option maxRecDepth 100000 in
theorem c21_FFFT (x1 x2 : Int32) (f0 : decide (x1 < 0) = false) (f1 : decide (60 < x1) = false) (f2 : decide (x2 < 0) = false) (f3 : decide (1 < x2) = true) : ∃ hs', mEnds [] 20 78 (mentry 78 [.ref 1, .int x1, .int x2] hC0) (some (.int (-1)), hs', 0, 0) := by
  refine ⟨hC0, ?_⟩
  refine mEnds.steps 3 (q' := (4, [some (.ref 1), some (.int x1), some (.int x2), none, none, none, none, none, none], [.int 60, .int 0, .int x1], hC0, 0, 0)) rfl ?_
  refine mEnds.call (d := 19) (y' := 105) (as := [.int x1, .int 0, .int 60]) (q' := (7, [some (.ref 1), some (.int x1), some (.int x2), none, none, none, none, none, none], [], hC0, 0, 0)) (v := some (.int 1)) (hs' := hC0) (c' := 0) (s' := 0) rfl rfl ?_ ?_
  · refine mEnds.steps 2 (q' := (2, [some (.int x1), some (.int 0), some (.int 60)], [.int 0, .int x1], hC0, 0, 0)) rfl ?_
    refine mEnds.brF (q' := (5, [some (.int x1), some (.int 0), some (.int 60)], [], hC0, 0, 0)) rfl f0 rfl ?_
    refine mEnds.steps 2 (q' := (7, [some (.int x1), some (.int 0), some (.int 60)], [.int 60, .int x1], hC0, 0, 0)) rfl ?_
    refine mEnds.brF (q' := (10, [some (.int x1), some (.int 0), some (.int 60)], [], hC0, 0, 0)) rfl f1 rfl ?_
    refine mEnds.steps 2 (q' := (15, [some (.int x1), some (.int 0), some (.int 60)], [.int 1], hC0, 0, 0)) rfl ?_
    exact mEnds.ret rfl
  show mEnds [] 20 78 (7, [some (.ref 1), some (.int x1), some (.int x2), none, none, none, none, none, none], [.int 1], hC0, 0, 0) _
  refine mEnds.steps 4 (q' := (13, [some (.ref 1), some (.int x1), some (.int x2), none, none, none, none, none, none], [.int 1, .int 0, .int x2], hC0, 0, 0)) rfl ?_
  refine mEnds.call (d := 19) (y' := 105) (as := [.int x2, .int 0, .int 1]) (q' := (16, [some (.ref 1), some (.int x1), some (.int x2), none, none, none, none, none, none], [], hC0, 0, 0)) (v := some (.int 0)) (hs' := hC0) (c' := 0) (s' := 0) rfl rfl ?_ ?_
  · refine mEnds.steps 2 (q' := (2, [some (.int x2), some (.int 0), some (.int 1)], [.int 0, .int x2], hC0, 0, 0)) rfl ?_
    refine mEnds.brF (q' := (5, [some (.int x2), some (.int 0), some (.int 1)], [], hC0, 0, 0)) rfl f2 rfl ?_
    refine mEnds.steps 2 (q' := (7, [some (.int x2), some (.int 0), some (.int 1)], [.int 1, .int x2], hC0, 0, 0)) rfl ?_
    refine mEnds.brT (q' := (14, [some (.int x2), some (.int 0), some (.int 1)], [], hC0, 0, 0)) rfl f3 rfl ?_
    refine mEnds.steps 1 (q' := (15, [some (.int x2), some (.int 0), some (.int 1)], [.int 0], hC0, 0, 0)) rfl ?_
    exact mEnds.ret rfl
  show mEnds [] 20 78 (16, [some (.ref 1), some (.int x1), some (.int x2), none, none, none, none, none, none], [.int 0], hC0, 0, 0) _
  refine mEnds.steps 2 (q' := (20, [some (.ref 1), some (.int x1), some (.int x2), none, none, none, none, none, none], [.int (-1)], hC0, 0, 0)) rfl ?_
  exact mEnds.ret rfl
set_option maxRecDepth 100000 in
theorem m21_FFFT (x1 x2 : Int32) (f0 : decide (x1 < 0) = false) (f1 : decide (60 < x1) = false) (f2 : decide (x2 < 0) = false) (f3 : decide (1 < x2) = true) : ∃ hs', mEnds [] 20 161 (mentry 161 [.ref 1, .int x1, .int x2] hM0) (some (.int (-1)), hs', 0, 0) := by
  refine ⟨hM0, ?_⟩
  refine mEnds.steps 4 (q' := (6, [some (.ref 1), some (.int x1), some (.int x2), none, none, none, none, none], [.long 60, .long 0, .long x1.toInt64], hM0, 0, 0)) rfl ?_
  refine mEnds.call (d := 19) (y' := 111) (as := [.long x1.toInt64, .long 0, .long 60]) (q' := (9, [some (.ref 1), some (.int x1), some (.int x2), none, none, none, none, none], [], hM0, 0, 0)) (v := some (.int 1)) (hs' := hM0) (c' := 0) (s' := 0) rfl rfl ?_ ?_
  · refine mEnds.steps 3 (q' := (3, [some (.long x1.toInt64), none, some (.long 0), none, some (.long 60), none], [.int (lg_cmp x1.toInt64 0)], hM0, 0, 0)) rfl ?_
    refine mEnds.brF (q' := (6, [some (.long x1.toInt64), none, some (.long 0), none, some (.long 60), none], [], hM0, 0, 0)) rfl (lgc_lt (c := 0) (by decide) f0) rfl ?_
    refine mEnds.steps 3 (q' := (10, [some (.long x1.toInt64), none, some (.long 0), none, some (.long 60), none], [.int (lg_cmp x1.toInt64 60)], hM0, 0, 0)) rfl ?_
    refine mEnds.brF (q' := (13, [some (.long x1.toInt64), none, some (.long 0), none, some (.long 60), none], [], hM0, 0, 0)) rfl (lgc_gt (c := 60) (by decide) f1) rfl ?_
    refine mEnds.steps 2 (q' := (18, [some (.long x1.toInt64), none, some (.long 0), none, some (.long 60), none], [.int 1], hM0, 0, 0)) rfl ?_
    exact mEnds.ret rfl
  show mEnds [] 20 161 (9, [some (.ref 1), some (.int x1), some (.int x2), none, none, none, none, none], [.int 1], hM0, 0, 0) _
  refine mEnds.steps 5 (q' := (16, [some (.ref 1), some (.int x1), some (.int x2), none, none, none, none, none], [.long 1, .long 0, .long x2.toInt64], hM0, 0, 0)) rfl ?_
  refine mEnds.call (d := 19) (y' := 111) (as := [.long x2.toInt64, .long 0, .long 1]) (q' := (19, [some (.ref 1), some (.int x1), some (.int x2), none, none, none, none, none], [], hM0, 0, 0)) (v := some (.int 0)) (hs' := hM0) (c' := 0) (s' := 0) rfl rfl ?_ ?_
  · refine mEnds.steps 3 (q' := (3, [some (.long x2.toInt64), none, some (.long 0), none, some (.long 1), none], [.int (lg_cmp x2.toInt64 0)], hM0, 0, 0)) rfl ?_
    refine mEnds.brF (q' := (6, [some (.long x2.toInt64), none, some (.long 0), none, some (.long 1), none], [], hM0, 0, 0)) rfl (lgc_lt (c := 0) (by decide) f2) rfl ?_
    refine mEnds.steps 3 (q' := (10, [some (.long x2.toInt64), none, some (.long 0), none, some (.long 1), none], [.int (lg_cmp x2.toInt64 1)], hM0, 0, 0)) rfl ?_
    refine mEnds.brT (q' := (17, [some (.long x2.toInt64), none, some (.long 0), none, some (.long 1), none], [], hM0, 0, 0)) rfl (lgc_gt (c := 1) (by decide) f3) rfl ?_
    refine mEnds.steps 1 (q' := (18, [some (.long x2.toInt64), none, some (.long 0), none, some (.long 1), none], [.int 0], hM0, 0, 0)) rfl ?_
    exact mEnds.ret rfl
  show mEnds [] 20 161 (19, [some (.ref 1), some (.int x1), some (.int x2), none, none, none, none, none], [.int 0], hM0, 0, 0) _
  refine mEnds.steps 2 (q' := (23, [some (.ref 1), some (.int x1), some (.int x2), none, none, none, none, none], [.int (-1)], hM0, 0, 0)) rfl ?_
  exact mEnds.ret rfl
set_option maxRecDepth 100000 in
theorem c21_FFFFN (N : Nat) (hN : N ≤ 60) (x2 : Int32) (f0 : decide ((nI N) < 0) = false) (f1 : decide (60 < (nI N)) = false) (f2 : decide (x2 < 0) = false) (f3 : decide (1 < x2) = false) : ∃ hs', mEnds [] 20 78 (mentry 78 [.ref 1, .int (nI N), .int x2] hC0) (some (.int (-4)), hs', 0, 0) := by
  refine ⟨(hk44 N), ?_⟩
  refine mEnds.steps 3 (q' := (4, [some (.ref 1), some (.int (nI N)), some (.int x2), none, none, none, none, none, none], [.int 60, .int 0, .int (nI N)], hC0, 0, 0)) rfl ?_
  refine mEnds.call (d := 19) (y' := 105) (as := [.int (nI N), .int 0, .int 60]) (q' := (7, [some (.ref 1), some (.int (nI N)), some (.int x2), none, none, none, none, none, none], [], hC0, 0, 0)) (v := some (.int 1)) (hs' := hC0) (c' := 0) (s' := 0) rfl rfl ?_ ?_
  · refine mEnds.steps 2 (q' := (2, [some (.int (nI N)), some (.int 0), some (.int 60)], [.int 0, .int (nI N)], hC0, 0, 0)) rfl ?_
    refine mEnds.brF (q' := (5, [some (.int (nI N)), some (.int 0), some (.int 60)], [], hC0, 0, 0)) rfl f0 rfl ?_
    refine mEnds.steps 2 (q' := (7, [some (.int (nI N)), some (.int 0), some (.int 60)], [.int 60, .int (nI N)], hC0, 0, 0)) rfl ?_
    refine mEnds.brF (q' := (10, [some (.int (nI N)), some (.int 0), some (.int 60)], [], hC0, 0, 0)) rfl f1 rfl ?_
    refine mEnds.steps 2 (q' := (15, [some (.int (nI N)), some (.int 0), some (.int 60)], [.int 1], hC0, 0, 0)) rfl ?_
    exact mEnds.ret rfl
  show mEnds [] 20 78 (7, [some (.ref 1), some (.int (nI N)), some (.int x2), none, none, none, none, none, none], [.int 1], hC0, 0, 0) _
  refine mEnds.steps 4 (q' := (13, [some (.ref 1), some (.int (nI N)), some (.int x2), none, none, none, none, none, none], [.int 1, .int 0, .int x2], hC0, 0, 0)) rfl ?_
  refine mEnds.call (d := 19) (y' := 105) (as := [.int x2, .int 0, .int 1]) (q' := (16, [some (.ref 1), some (.int (nI N)), some (.int x2), none, none, none, none, none, none], [], hC0, 0, 0)) (v := some (.int 1)) (hs' := hC0) (c' := 0) (s' := 0) rfl rfl ?_ ?_
  · refine mEnds.steps 2 (q' := (2, [some (.int x2), some (.int 0), some (.int 1)], [.int 0, .int x2], hC0, 0, 0)) rfl ?_
    refine mEnds.brF (q' := (5, [some (.int x2), some (.int 0), some (.int 1)], [], hC0, 0, 0)) rfl f2 rfl ?_
    refine mEnds.steps 2 (q' := (7, [some (.int x2), some (.int 0), some (.int 1)], [.int 1, .int x2], hC0, 0, 0)) rfl ?_
    refine mEnds.brF (q' := (10, [some (.int x2), some (.int 0), some (.int 1)], [], hC0, 0, 0)) rfl f3 rfl ?_
    refine mEnds.steps 2 (q' := (15, [some (.int x2), some (.int 0), some (.int 1)], [.int 1], hC0, 0, 0)) rfl ?_
    exact mEnds.ret rfl
  show mEnds [] 20 78 (16, [some (.ref 1), some (.int (nI N)), some (.int x2), none, none, none, none, none, none], [.int 1], hC0, 0, 0) _
  refine mEnds.steps 4 (q' := (25, [some (.ref 1), some (.int (nI N)), some (.int x2), some (.int (-4)), none, none, none, none, none], [.ref 1], hC0, 0, 0)) rfl ?_
  refine mEnds.call (d := 19) (y' := 109) (as := [.ref 1]) (q' := (28, [some (.ref 1), some (.int (nI N)), some (.int x2), some (.int (-4)), none, none, none, none, none], [], hC0, 0, 0)) (v := some (.ref 44)) (hs' := hC0) (c' := 0) (s' := 0) rfl rfl ?_ ?_
  · exact mEnds.deep cpn 9
  show mEnds [] 20 78 (28, [some (.ref 1), some (.int (nI N)), some (.int x2), some (.int (-4)), none, none, none, none, none], [.ref 44], hC0, 0, 0) _
  refine mEnds.steps 1 (q' := (29, [some (.ref 1), some (.int (nI N)), some (.int x2), some (.int (-4)), none, none, none, none, none], [.int (nI N), .ref 44], hC0, 0, 0)) rfl ?_
  refine mEnds.call (d := 19) (y' := 22) (as := [.ref 44, .int (nI N)]) (q' := (32, [some (.ref 1), some (.int (nI N)), some (.int x2), some (.int (-4)), none, none, none, none, none], [], hC0, 0, 0)) (v := some (.int 0)) (hs' := (hk44 N)) (c' := 0) (s' := 0) rfl rfl ?_ ?_
  · exact mEnds.deep (ph44 hN) 1
  show mEnds [] 20 78 (32, [some (.ref 1), some (.int (nI N)), some (.int x2), some (.int (-4)), none, none, none, none, none], [.int 0], (hk44 N), 0, 0) _
  refine mEnds.steps 11 (q' := (126, [some (.ref 1), some (.int (nI N)), some (.int x2), some (.int (-4)), some (.int 0), some (.int 0), none, none, none], [.int x2, .int 0, .int (-4)], (hk44 N), 0, 0)) rfl ?_
  refine mEnds.call (d := 19) (y' := 108) (as := [.int (-4), .int 0, .int x2]) (q' := (129, [some (.ref 1), some (.int (nI N)), some (.int x2), some (.int (-4)), some (.int 0), some (.int 0), none, none, none], [], (hk44 N), 0, 0)) (v := some (.int (-4))) (hs' := (hk44 N)) (c' := 0) (s' := 0) rfl rfl ?_ ?_
  · refine mEnds.steps 4 (q' := (8, [some (.int (-4)), some (.int 0), some (.int x2)], [.int (-4)], (hk44 N), 0, 0)) rfl ?_
    exact mEnds.ret rfl
  show mEnds [] 20 78 (129, [some (.ref 1), some (.int (nI N)), some (.int x2), some (.int (-4)), some (.int 0), some (.int 0), none, none, none], [.int (-4)], (hk44 N), 0, 0) _
  exact mEnds.ret rfl
set_option maxRecDepth 100000 in
theorem m21_FFFFN (N : Nat) (hN : N ≤ 60) (x2 : Int32) (f0 : decide ((nI N) < 0) = false) (f1 : decide (60 < (nI N)) = false) (f2 : decide (x2 < 0) = false) (f3 : decide (1 < x2) = false) : ∃ hs', mEnds [] 20 161 (mentry 161 [.ref 1, .int (nI N), .int x2] hM0) (some (.int (-4)), hs', 0, 0) := by
  refine ⟨(hg N (tt N)), ?_⟩
  refine mEnds.steps 4 (q' := (6, [some (.ref 1), some (.int (nI N)), some (.int x2), none, none, none, none, none], [.long 60, .long 0, .long (nI N).toInt64], hM0, 0, 0)) rfl ?_
  refine mEnds.call (d := 19) (y' := 111) (as := [.long (nI N).toInt64, .long 0, .long 60]) (q' := (9, [some (.ref 1), some (.int (nI N)), some (.int x2), none, none, none, none, none], [], hM0, 0, 0)) (v := some (.int 1)) (hs' := hM0) (c' := 0) (s' := 0) rfl rfl ?_ ?_
  · refine mEnds.steps 3 (q' := (3, [some (.long (nI N).toInt64), none, some (.long 0), none, some (.long 60), none], [.int (lg_cmp (nI N).toInt64 0)], hM0, 0, 0)) rfl ?_
    refine mEnds.brF (q' := (6, [some (.long (nI N).toInt64), none, some (.long 0), none, some (.long 60), none], [], hM0, 0, 0)) rfl (lgc_lt (c := 0) (by decide) f0) rfl ?_
    refine mEnds.steps 3 (q' := (10, [some (.long (nI N).toInt64), none, some (.long 0), none, some (.long 60), none], [.int (lg_cmp (nI N).toInt64 60)], hM0, 0, 0)) rfl ?_
    refine mEnds.brF (q' := (13, [some (.long (nI N).toInt64), none, some (.long 0), none, some (.long 60), none], [], hM0, 0, 0)) rfl (lgc_gt (c := 60) (by decide) f1) rfl ?_
    refine mEnds.steps 2 (q' := (18, [some (.long (nI N).toInt64), none, some (.long 0), none, some (.long 60), none], [.int 1], hM0, 0, 0)) rfl ?_
    exact mEnds.ret rfl
  show mEnds [] 20 161 (9, [some (.ref 1), some (.int (nI N)), some (.int x2), none, none, none, none, none], [.int 1], hM0, 0, 0) _
  refine mEnds.steps 5 (q' := (16, [some (.ref 1), some (.int (nI N)), some (.int x2), none, none, none, none, none], [.long 1, .long 0, .long x2.toInt64], hM0, 0, 0)) rfl ?_
  refine mEnds.call (d := 19) (y' := 111) (as := [.long x2.toInt64, .long 0, .long 1]) (q' := (19, [some (.ref 1), some (.int (nI N)), some (.int x2), none, none, none, none, none], [], hM0, 0, 0)) (v := some (.int 1)) (hs' := hM0) (c' := 0) (s' := 0) rfl rfl ?_ ?_
  · refine mEnds.steps 3 (q' := (3, [some (.long x2.toInt64), none, some (.long 0), none, some (.long 1), none], [.int (lg_cmp x2.toInt64 0)], hM0, 0, 0)) rfl ?_
    refine mEnds.brF (q' := (6, [some (.long x2.toInt64), none, some (.long 0), none, some (.long 1), none], [], hM0, 0, 0)) rfl (lgc_lt (c := 0) (by decide) f2) rfl ?_
    refine mEnds.steps 3 (q' := (10, [some (.long x2.toInt64), none, some (.long 0), none, some (.long 1), none], [.int (lg_cmp x2.toInt64 1)], hM0, 0, 0)) rfl ?_
    refine mEnds.brF (q' := (13, [some (.long x2.toInt64), none, some (.long 0), none, some (.long 1), none], [], hM0, 0, 0)) rfl (lgc_gt (c := 1) (by decide) f3) rfl ?_
    refine mEnds.steps 2 (q' := (18, [some (.long x2.toInt64), none, some (.long 0), none, some (.long 1), none], [.int 1], hM0, 0, 0)) rfl ?_
    exact mEnds.ret rfl
  show mEnds [] 20 161 (19, [some (.ref 1), some (.int (nI N)), some (.int x2), none, none, none, none, none], [.int 1], hM0, 0, 0) _
  refine mEnds.steps 4 (q' := (27, [some (.ref 1), some (.int (nI N)), some (.int x2), none, none, none, none, none], [.int (nI N), .int 0, .ref 1], hM0, 0, 0)) rfl ?_
  refine mEnds.call (d := 19) (y' := 153) (as := [.ref 1, .int 0, .int (nI N)]) (q' := (30, [some (.ref 1), some (.int (nI N)), some (.int x2), none, none, none, none, none], [], hM0, 0, 0)) (v := some (.int 0)) (hs' := (hg N (tt N))) (c' := 0) (s' := 0) rfl rfl ?_ ?_
  · exact mEnds.deep (hgo hN) 1
  show mEnds [] 20 161 (30, [some (.ref 1), some (.int (nI N)), some (.int x2), none, none, none, none, none], [.int 0], (hg N (tt N)), 0, 0) _
  refine mEnds.steps 14 (q' := (295, [some (.ref 1), some (.int (nI N)), some (.int x2), some (.int 0), some (.int (-4)), some (.int 0), none, none], [.int (-4)], (hg N (tt N)), 0, 0)) rfl ?_
  exact mEnds.ret rfl
theorem ok_21 (x1 x2 x3 x4 x5 : Int32) : callOK_21 x1 x2 x3 x4 x5 := by
  cases f0 : decide (x1 < 0) with
  | true =>
    obtain ⟨h1, a1⟩ := c21_T x1 x2 f0
    obtain ⟨h2, a2⟩ := m21_T x1 x2 f0
    exact ⟨_, h1, h2, a1, a2⟩
  | false =>
    cases f1 : decide (60 < x1) with
    | true =>
      obtain ⟨h1, a1⟩ := c21_FT x1 x2 f0 f1
      obtain ⟨h2, a2⟩ := m21_FT x1 x2 f0 f1
      exact ⟨_, h1, h2, a1, a2⟩
    | false =>
      cases f2 : decide (x2 < 0) with
      | true =>
        obtain ⟨h1, a1⟩ := c21_FFT x1 x2 f0 f1 f2
        obtain ⟨h2, a2⟩ := m21_FFT x1 x2 f0 f1 f2
        exact ⟨_, h1, h2, a1, a2⟩
      | false =>
        cases f3 : decide (1 < x2) with
        | true =>
          obtain ⟨h1, a1⟩ := c21_FFFT x1 x2 f0 f1 f2 f3
          obtain ⟨h2, a2⟩ := m21_FFFT x1 x2 f0 f1 f2 f3
          exact ⟨_, h1, h2, a1, a2⟩
        | false =>
          obtain ⟨N, hN, eN⟩ := i32_rng (n := 61) f0 f1 (by decide)
          obtain rfl := i32_nI eN (by omega)
          replace hN : N ≤ 60 := by omega
          clear eN
          obtain ⟨h1, a1⟩ := c21_FFFFN N hN x2 f0 f1 f2 f3
          obtain ⟨h2, a2⟩ := m21_FFFFN N hN x2 f0 f1 f2 f3
          exact ⟨_, h1, h2, a1, a2⟩
set_option maxRecDepth 100000 in
theorem c22_T (x1 x2 : Int32) (f0 : decide (x1 < 0) = true) : ∃ hs', mEnds [] 20 79 (mentry 79 [.ref 1, .int x1, .int x2] hC0) (some (.int (-1)), hs', 0, 0) := by
  refine ⟨hC0, ?_⟩
  refine mEnds.steps 3 (q' := (4, [some (.ref 1), some (.int x1), some (.int x2), none, none, none, none, none], [.int 60, .int 0, .int x1], hC0, 0, 0)) rfl ?_
  refine mEnds.call (d := 19) (y' := 105) (as := [.int x1, .int 0, .int 60]) (q' := (7, [some (.ref 1), some (.int x1), some (.int x2), none, none, none, none, none], [], hC0, 0, 0)) (v := some (.int 0)) (hs' := hC0) (c' := 0) (s' := 0) rfl rfl ?_ ?_
  · refine mEnds.steps 2 (q' := (2, [some (.int x1), some (.int 0), some (.int 60)], [.int 0, .int x1], hC0, 0, 0)) rfl ?_
    refine mEnds.brT (q' := (14, [some (.int x1), some (.int 0), some (.int 60)], [], hC0, 0, 0)) rfl f0 rfl ?_
    refine mEnds.steps 1 (q' := (15, [some (.int x1), some (.int 0), some (.int 60)], [.int 0], hC0, 0, 0)) rfl ?_
    exact mEnds.ret rfl
  show mEnds [] 20 79 (7, [some (.ref 1), some (.int x1), some (.int x2), none, none, none, none, none], [.int 0], hC0, 0, 0) _
  refine mEnds.steps 2 (q' := (20, [some (.ref 1), some (.int x1), some (.int x2), none, none, none, none, none], [.int (-1)], hC0, 0, 0)) rfl ?_
  exact mEnds.ret rfl
set_option maxRecDepth 100000 in
theorem m22_T (x1 x2 : Int32) (f0 : decide (x1 < 0) = true) : ∃ hs', mEnds [] 20 162 (mentry 162 [.ref 1, .int x1, .int x2] hM0) (some (.int (-1)), hs', 0, 0) := by
  refine ⟨hM0, ?_⟩
  refine mEnds.steps 4 (q' := (6, [some (.ref 1), some (.int x1), some (.int x2), none, none, none, none], [.long 60, .long 0, .long x1.toInt64], hM0, 0, 0)) rfl ?_
  refine mEnds.call (d := 19) (y' := 111) (as := [.long x1.toInt64, .long 0, .long 60]) (q' := (9, [some (.ref 1), some (.int x1), some (.int x2), none, none, none, none], [], hM0, 0, 0)) (v := some (.int 0)) (hs' := hM0) (c' := 0) (s' := 0) rfl rfl ?_ ?_
  · refine mEnds.steps 3 (q' := (3, [some (.long x1.toInt64), none, some (.long 0), none, some (.long 60), none], [.int (lg_cmp x1.toInt64 0)], hM0, 0, 0)) rfl ?_
    refine mEnds.brT (q' := (17, [some (.long x1.toInt64), none, some (.long 0), none, some (.long 60), none], [], hM0, 0, 0)) rfl (lgc_lt (c := 0) (by decide) f0) rfl ?_
    refine mEnds.steps 1 (q' := (18, [some (.long x1.toInt64), none, some (.long 0), none, some (.long 60), none], [.int 0], hM0, 0, 0)) rfl ?_
    exact mEnds.ret rfl
  show mEnds [] 20 162 (9, [some (.ref 1), some (.int x1), some (.int x2), none, none, none, none], [.int 0], hM0, 0, 0) _
  refine mEnds.steps 2 (q' := (23, [some (.ref 1), some (.int x1), some (.int x2), none, none, none, none], [.int (-1)], hM0, 0, 0)) rfl ?_
  exact mEnds.ret rfl
set_option maxRecDepth 100000 in
theorem c22_FT (x1 x2 : Int32) (f0 : decide (x1 < 0) = false) (f1 : decide (60 < x1) = true) : ∃ hs', mEnds [] 20 79 (mentry 79 [.ref 1, .int x1, .int x2] hC0) (some (.int (-1)), hs', 0, 0) := by
  refine ⟨hC0, ?_⟩
  refine mEnds.steps 3 (q' := (4, [some (.ref 1), some (.int x1), some (.int x2), none, none, none, none, none], [.int 60, .int 0, .int x1], hC0, 0, 0)) rfl ?_
  refine mEnds.call (d := 19) (y' := 105) (as := [.int x1, .int 0, .int 60]) (q' := (7, [some (.ref 1), some (.int x1), some (.int x2), none, none, none, none, none], [], hC0, 0, 0)) (v := some (.int 0)) (hs' := hC0) (c' := 0) (s' := 0) rfl rfl ?_ ?_
  · refine mEnds.steps 2 (q' := (2, [some (.int x1), some (.int 0), some (.int 60)], [.int 0, .int x1], hC0, 0, 0)) rfl ?_
    refine mEnds.brF (q' := (5, [some (.int x1), some (.int 0), some (.int 60)], [], hC0, 0, 0)) rfl f0 rfl ?_
    refine mEnds.steps 2 (q' := (7, [some (.int x1), some (.int 0), some (.int 60)], [.int 60, .int x1], hC0, 0, 0)) rfl ?_
    refine mEnds.brT (q' := (14, [some (.int x1), some (.int 0), some (.int 60)], [], hC0, 0, 0)) rfl f1 rfl ?_
    refine mEnds.steps 1 (q' := (15, [some (.int x1), some (.int 0), some (.int 60)], [.int 0], hC0, 0, 0)) rfl ?_
    exact mEnds.ret rfl
  show mEnds [] 20 79 (7, [some (.ref 1), some (.int x1), some (.int x2), none, none, none, none, none], [.int 0], hC0, 0, 0) _
  refine mEnds.steps 2 (q' := (20, [some (.ref 1), some (.int x1), some (.int x2), none, none, none, none, none], [.int (-1)], hC0, 0, 0)) rfl ?_
  exact mEnds.ret rfl
set_option maxRecDepth 100000 in
theorem m22_FT (x1 x2 : Int32) (f0 : decide (x1 < 0) = false) (f1 : decide (60 < x1) = true) : ∃ hs', mEnds [] 20 162 (mentry 162 [.ref 1, .int x1, .int x2] hM0) (some (.int (-1)), hs', 0, 0) := by
  refine ⟨hM0, ?_⟩
  refine mEnds.steps 4 (q' := (6, [some (.ref 1), some (.int x1), some (.int x2), none, none, none, none], [.long 60, .long 0, .long x1.toInt64], hM0, 0, 0)) rfl ?_
  refine mEnds.call (d := 19) (y' := 111) (as := [.long x1.toInt64, .long 0, .long 60]) (q' := (9, [some (.ref 1), some (.int x1), some (.int x2), none, none, none, none], [], hM0, 0, 0)) (v := some (.int 0)) (hs' := hM0) (c' := 0) (s' := 0) rfl rfl ?_ ?_
  · refine mEnds.steps 3 (q' := (3, [some (.long x1.toInt64), none, some (.long 0), none, some (.long 60), none], [.int (lg_cmp x1.toInt64 0)], hM0, 0, 0)) rfl ?_
    refine mEnds.brF (q' := (6, [some (.long x1.toInt64), none, some (.long 0), none, some (.long 60), none], [], hM0, 0, 0)) rfl (lgc_lt (c := 0) (by decide) f0) rfl ?_
    refine mEnds.steps 3 (q' := (10, [some (.long x1.toInt64), none, some (.long 0), none, some (.long 60), none], [.int (lg_cmp x1.toInt64 60)], hM0, 0, 0)) rfl ?_
    refine mEnds.brT (q' := (17, [some (.long x1.toInt64), none, some (.long 0), none, some (.long 60), none], [], hM0, 0, 0)) rfl (lgc_gt (c := 60) (by decide) f1) rfl ?_
    refine mEnds.steps 1 (q' := (18, [some (.long x1.toInt64), none, some (.long 0), none, some (.long 60), none], [.int 0], hM0, 0, 0)) rfl ?_
    exact mEnds.ret rfl
  show mEnds [] 20 162 (9, [some (.ref 1), some (.int x1), some (.int x2), none, none, none, none], [.int 0], hM0, 0, 0) _
  refine mEnds.steps 2 (q' := (23, [some (.ref 1), some (.int x1), some (.int x2), none, none, none, none], [.int (-1)], hM0, 0, 0)) rfl ?_
  exact mEnds.ret rfl
set_option maxRecDepth 100000 in
theorem c22_FFT (x1 x2 : Int32) (f0 : decide (x1 < 0) = false) (f1 : decide (60 < x1) = false) (f2 : decide (x2 < 0) = true) : ∃ hs', mEnds [] 20 79 (mentry 79 [.ref 1, .int x1, .int x2] hC0) (some (.int (-1)), hs', 0, 0) := by
  refine ⟨hC0, ?_⟩
  refine mEnds.steps 3 (q' := (4, [some (.ref 1), some (.int x1), some (.int x2), none, none, none, none, none], [.int 60, .int 0, .int x1], hC0, 0, 0)) rfl ?_
  refine mEnds.call (d := 19) (y' := 105) (as := [.int x1, .int 0, .int 60]) (q' := (7, [some (.ref 1), some (.int x1), some (.int x2), none, none, none, none, none], [], hC0, 0, 0)) (v := some (.int 1)) (hs' := hC0) (c' := 0) (s' := 0) rfl rfl ?_ ?_
  · refine mEnds.steps 2 (q' := (2, [some (.int x1), some (.int 0), some (.int 60)], [.int 0, .int x1], hC0, 0, 0)) rfl ?_
    refine mEnds.brF (q' := (5, [some (.int x1), some (.int 0), some (.int 60)], [], hC0, 0, 0)) rfl f0 rfl ?_
    refine mEnds.steps 2 (q' := (7, [some (.int x1), some (.int 0), some (.int 60)], [.int 60, .int x1], hC0, 0, 0)) rfl ?_
    refine mEnds.brF (q' := (10, [some (.int x1), some (.int 0), some (.int 60)], [], hC0, 0, 0)) rfl f1 rfl ?_
    refine mEnds.steps 2 (q' := (15, [some (.int x1), some (.int 0), some (.int 60)], [.int 1], hC0, 0, 0)) rfl ?_
    exact mEnds.ret rfl
  show mEnds [] 20 79 (7, [some (.ref 1), some (.int x1), some (.int x2), none, none, none, none, none], [.int 1], hC0, 0, 0) _
  refine mEnds.steps 4 (q' := (13, [some (.ref 1), some (.int x1), some (.int x2), none, none, none, none, none], [.int 1, .int 0, .int x2], hC0, 0, 0)) rfl ?_
  refine mEnds.call (d := 19) (y' := 105) (as := [.int x2, .int 0, .int 1]) (q' := (16, [some (.ref 1), some (.int x1), some (.int x2), none, none, none, none, none], [], hC0, 0, 0)) (v := some (.int 0)) (hs' := hC0) (c' := 0) (s' := 0) rfl rfl ?_ ?_
  · refine mEnds.steps 2 (q' := (2, [some (.int x2), some (.int 0), some (.int 1)], [.int 0, .int x2], hC0, 0, 0)) rfl ?_
    refine mEnds.brT (q' := (14, [some (.int x2), some (.int 0), some (.int 1)], [], hC0, 0, 0)) rfl f2 rfl ?_
    refine mEnds.steps 1 (q' := (15, [some (.int x2), some (.int 0), some (.int 1)], [.int 0], hC0, 0, 0)) rfl ?_
    exact mEnds.ret rfl
  show mEnds [] 20 79 (16, [some (.ref 1), some (.int x1), some (.int x2), none, none, none, none, none], [.int 0], hC0, 0, 0) _
  refine mEnds.steps 2 (q' := (20, [some (.ref 1), some (.int x1), some (.int x2), none, none, none, none, none], [.int (-1)], hC0, 0, 0)) rfl ?_
  exact mEnds.ret rfl
set_option maxRecDepth 100000 in
theorem m22_FFT (x1 x2 : Int32) (f0 : decide (x1 < 0) = false) (f1 : decide (60 < x1) = false) (f2 : decide (x2 < 0) = true) : ∃ hs', mEnds [] 20 162 (mentry 162 [.ref 1, .int x1, .int x2] hM0) (some (.int (-1)), hs', 0, 0) := by
  refine ⟨hM0, ?_⟩
  refine mEnds.steps 4 (q' := (6, [some (.ref 1), some (.int x1), some (.int x2), none, none, none, none], [.long 60, .long 0, .long x1.toInt64], hM0, 0, 0)) rfl ?_
  refine mEnds.call (d := 19) (y' := 111) (as := [.long x1.toInt64, .long 0, .long 60]) (q' := (9, [some (.ref 1), some (.int x1), some (.int x2), none, none, none, none], [], hM0, 0, 0)) (v := some (.int 1)) (hs' := hM0) (c' := 0) (s' := 0) rfl rfl ?_ ?_
  · refine mEnds.steps 3 (q' := (3, [some (.long x1.toInt64), none, some (.long 0), none, some (.long 60), none], [.int (lg_cmp x1.toInt64 0)], hM0, 0, 0)) rfl ?_
    refine mEnds.brF (q' := (6, [some (.long x1.toInt64), none, some (.long 0), none, some (.long 60), none], [], hM0, 0, 0)) rfl (lgc_lt (c := 0) (by decide) f0) rfl ?_
    refine mEnds.steps 3 (q' := (10, [some (.long x1.toInt64), none, some (.long 0), none, some (.long 60), none], [.int (lg_cmp x1.toInt64 60)], hM0, 0, 0)) rfl ?_
    refine mEnds.brF (q' := (13, [some (.long x1.toInt64), none, some (.long 0), none, some (.long 60), none], [], hM0, 0, 0)) rfl (lgc_gt (c := 60) (by decide) f1) rfl ?_
    refine mEnds.steps 2 (q' := (18, [some (.long x1.toInt64), none, some (.long 0), none, some (.long 60), none], [.int 1], hM0, 0, 0)) rfl ?_
    exact mEnds.ret rfl
  show mEnds [] 20 162 (9, [some (.ref 1), some (.int x1), some (.int x2), none, none, none, none], [.int 1], hM0, 0, 0) _
  refine mEnds.steps 5 (q' := (16, [some (.ref 1), some (.int x1), some (.int x2), none, none, none, none], [.long 1, .long 0, .long x2.toInt64], hM0, 0, 0)) rfl ?_
  refine mEnds.call (d := 19) (y' := 111) (as := [.long x2.toInt64, .long 0, .long 1]) (q' := (19, [some (.ref 1), some (.int x1), some (.int x2), none, none, none, none], [], hM0, 0, 0)) (v := some (.int 0)) (hs' := hM0) (c' := 0) (s' := 0) rfl rfl ?_ ?_
  · refine mEnds.steps 3 (q' := (3, [some (.long x2.toInt64), none, some (.long 0), none, some (.long 1), none], [.int (lg_cmp x2.toInt64 0)], hM0, 0, 0)) rfl ?_
    refine mEnds.brT (q' := (17, [some (.long x2.toInt64), none, some (.long 0), none, some (.long 1), none], [], hM0, 0, 0)) rfl (lgc_lt (c := 0) (by decide) f2) rfl ?_
    refine mEnds.steps 1 (q' := (18, [some (.long x2.toInt64), none, some (.long 0), none, some (.long 1), none], [.int 0], hM0, 0, 0)) rfl ?_
    exact mEnds.ret rfl
  show mEnds [] 20 162 (19, [some (.ref 1), some (.int x1), some (.int x2), none, none, none, none], [.int 0], hM0, 0, 0) _
  refine mEnds.steps 2 (q' := (23, [some (.ref 1), some (.int x1), some (.int x2), none, none, none, none], [.int (-1)], hM0, 0, 0)) rfl ?_
  exact mEnds.ret rfl
set_option maxRecDepth 100000 in
theorem c22_FFFT (x1 x2 : Int32) (f0 : decide (x1 < 0) = false) (f1 : decide (60 < x1) = false) (f2 : decide (x2 < 0) = false) (f3 : decide (1 < x2) = true) : ∃ hs', mEnds [] 20 79 (mentry 79 [.ref 1, .int x1, .int x2] hC0) (some (.int (-1)), hs', 0, 0) := by
  refine ⟨hC0, ?_⟩
  refine mEnds.steps 3 (q' := (4, [some (.ref 1), some (.int x1), some (.int x2), none, none, none, none, none], [.int 60, .int 0, .int x1], hC0, 0, 0)) rfl ?_
  refine mEnds.call (d := 19) (y' := 105) (as := [.int x1, .int 0, .int 60]) (q' := (7, [some (.ref 1), some (.int x1), some (.int x2), none, none, none, none, none], [], hC0, 0, 0)) (v := some (.int 1)) (hs' := hC0) (c' := 0) (s' := 0) rfl rfl ?_ ?_
  · refine mEnds.steps 2 (q' := (2, [some (.int x1), some (.int 0), some (.int 60)], [.int 0, .int x1], hC0, 0, 0)) rfl ?_
    refine mEnds.brF (q' := (5, [some (.int x1), some (.int 0), some (.int 60)], [], hC0, 0, 0)) rfl f0 rfl ?_
    refine mEnds.steps 2 (q' := (7, [some (.int x1), some (.int 0), some (.int 60)], [.int 60, .int x1], hC0, 0, 0)) rfl ?_
    refine mEnds.brF (q' := (10, [some (.int x1), some (.int 0), some (.int 60)], [], hC0, 0, 0)) rfl f1 rfl ?_
    refine mEnds.steps 2 (q' := (15, [some (.int x1), some (.int 0), some (.int 60)], [.int 1], hC0, 0, 0)) rfl ?_
    exact mEnds.ret rfl
  show mEnds [] 20 79 (7, [some (.ref 1), some (.int x1), some (.int x2), none, none, none, none, none], [.int 1], hC0, 0, 0) _
  refine mEnds.steps 4 (q' := (13, [some (.ref 1), some (.int x1), some (.int x2), none, none, none, none, none], [.int 1, .int 0, .int x2], hC0, 0, 0)) rfl ?_
  refine mEnds.call (d := 19) (y' := 105) (as := [.int x2, .int 0, .int 1]) (q' := (16, [some (.ref 1), some (.int x1), some (.int x2), none, none, none, none, none], [], hC0, 0, 0)) (v := some (.int 0)) (hs' := hC0) (c' := 0) (s' := 0) rfl rfl ?_ ?_
  · refine mEnds.steps 2 (q' := (2, [some (.int x2), some (.int 0), some (.int 1)], [.int 0, .int x2], hC0, 0, 0)) rfl ?_
    refine mEnds.brF (q' := (5, [some (.int x2), some (.int 0), some (.int 1)], [], hC0, 0, 0)) rfl f2 rfl ?_
    refine mEnds.steps 2 (q' := (7, [some (.int x2), some (.int 0), some (.int 1)], [.int 1, .int x2], hC0, 0, 0)) rfl ?_
    refine mEnds.brT (q' := (14, [some (.int x2), some (.int 0), some (.int 1)], [], hC0, 0, 0)) rfl f3 rfl ?_
    refine mEnds.steps 1 (q' := (15, [some (.int x2), some (.int 0), some (.int 1)], [.int 0], hC0, 0, 0)) rfl ?_
    exact mEnds.ret rfl
  show mEnds [] 20 79 (16, [some (.ref 1), some (.int x1), some (.int x2), none, none, none, none, none], [.int 0], hC0, 0, 0) _
  refine mEnds.steps 2 (q' := (20, [some (.ref 1), some (.int x1), some (.int x2), none, none, none, none, none], [.int (-1)], hC0, 0, 0)) rfl ?_
  exact mEnds.ret rfl
set_option maxRecDepth 100000 in
theorem m22_FFFT (x1 x2 : Int32) (f0 : decide (x1 < 0) = false) (f1 : decide (60 < x1) = false) (f2 : decide (x2 < 0) = false) (f3 : decide (1 < x2) = true) : ∃ hs', mEnds [] 20 162 (mentry 162 [.ref 1, .int x1, .int x2] hM0) (some (.int (-1)), hs', 0, 0) := by
  refine ⟨hM0, ?_⟩
  refine mEnds.steps 4 (q' := (6, [some (.ref 1), some (.int x1), some (.int x2), none, none, none, none], [.long 60, .long 0, .long x1.toInt64], hM0, 0, 0)) rfl ?_
  refine mEnds.call (d := 19) (y' := 111) (as := [.long x1.toInt64, .long 0, .long 60]) (q' := (9, [some (.ref 1), some (.int x1), some (.int x2), none, none, none, none], [], hM0, 0, 0)) (v := some (.int 1)) (hs' := hM0) (c' := 0) (s' := 0) rfl rfl ?_ ?_
  · refine mEnds.steps 3 (q' := (3, [some (.long x1.toInt64), none, some (.long 0), none, some (.long 60), none], [.int (lg_cmp x1.toInt64 0)], hM0, 0, 0)) rfl ?_
    refine mEnds.brF (q' := (6, [some (.long x1.toInt64), none, some (.long 0), none, some (.long 60), none], [], hM0, 0, 0)) rfl (lgc_lt (c := 0) (by decide) f0) rfl ?_
    refine mEnds.steps 3 (q' := (10, [some (.long x1.toInt64), none, some (.long 0), none, some (.long 60), none], [.int (lg_cmp x1.toInt64 60)], hM0, 0, 0)) rfl ?_
    refine mEnds.brF (q' := (13, [some (.long x1.toInt64), none, some (.long 0), none, some (.long 60), none], [], hM0, 0, 0)) rfl (lgc_gt (c := 60) (by decide) f1) rfl ?_
    refine mEnds.steps 2 (q' := (18, [some (.long x1.toInt64), none, some (.long 0), none, some (.long 60), none], [.int 1], hM0, 0, 0)) rfl ?_
    exact mEnds.ret rfl
  show mEnds [] 20 162 (9, [some (.ref 1), some (.int x1), some (.int x2), none, none, none, none], [.int 1], hM0, 0, 0) _
  refine mEnds.steps 5 (q' := (16, [some (.ref 1), some (.int x1), some (.int x2), none, none, none, none], [.long 1, .long 0, .long x2.toInt64], hM0, 0, 0)) rfl ?_
  refine mEnds.call (d := 19) (y' := 111) (as := [.long x2.toInt64, .long 0, .long 1]) (q' := (19, [some (.ref 1), some (.int x1), some (.int x2), none, none, none, none], [], hM0, 0, 0)) (v := some (.int 0)) (hs' := hM0) (c' := 0) (s' := 0) rfl rfl ?_ ?_
  · refine mEnds.steps 3 (q' := (3, [some (.long x2.toInt64), none, some (.long 0), none, some (.long 1), none], [.int (lg_cmp x2.toInt64 0)], hM0, 0, 0)) rfl ?_
    refine mEnds.brF (q' := (6, [some (.long x2.toInt64), none, some (.long 0), none, some (.long 1), none], [], hM0, 0, 0)) rfl (lgc_lt (c := 0) (by decide) f2) rfl ?_
    refine mEnds.steps 3 (q' := (10, [some (.long x2.toInt64), none, some (.long 0), none, some (.long 1), none], [.int (lg_cmp x2.toInt64 1)], hM0, 0, 0)) rfl ?_
    refine mEnds.brT (q' := (17, [some (.long x2.toInt64), none, some (.long 0), none, some (.long 1), none], [], hM0, 0, 0)) rfl (lgc_gt (c := 1) (by decide) f3) rfl ?_
    refine mEnds.steps 1 (q' := (18, [some (.long x2.toInt64), none, some (.long 0), none, some (.long 1), none], [.int 0], hM0, 0, 0)) rfl ?_
    exact mEnds.ret rfl
  show mEnds [] 20 162 (19, [some (.ref 1), some (.int x1), some (.int x2), none, none, none, none], [.int 0], hM0, 0, 0) _
  refine mEnds.steps 2 (q' := (23, [some (.ref 1), some (.int x1), some (.int x2), none, none, none, none], [.int (-1)], hM0, 0, 0)) rfl ?_
  exact mEnds.ret rfl
set_option maxRecDepth 100000 in
theorem c22_FFFFN (N : Nat) (hN : N ≤ 60) (x2 : Int32) (f0 : decide ((nI N) < 0) = false) (f1 : decide (60 < (nI N)) = false) (f2 : decide (x2 < 0) = false) (f3 : decide (1 < x2) = false) : ∃ hs', mEnds [] 20 79 (mentry 79 [.ref 1, .int (nI N), .int x2] hC0) (some (.int (-4)), hs', 0, 0) := by
  refine ⟨(hk44 N), ?_⟩
  refine mEnds.steps 3 (q' := (4, [some (.ref 1), some (.int (nI N)), some (.int x2), none, none, none, none, none], [.int 60, .int 0, .int (nI N)], hC0, 0, 0)) rfl ?_
  refine mEnds.call (d := 19) (y' := 105) (as := [.int (nI N), .int 0, .int 60]) (q' := (7, [some (.ref 1), some (.int (nI N)), some (.int x2), none, none, none, none, none], [], hC0, 0, 0)) (v := some (.int 1)) (hs' := hC0) (c' := 0) (s' := 0) rfl rfl ?_ ?_
  · refine mEnds.steps 2 (q' := (2, [some (.int (nI N)), some (.int 0), some (.int 60)], [.int 0, .int (nI N)], hC0, 0, 0)) rfl ?_
    refine mEnds.brF (q' := (5, [some (.int (nI N)), some (.int 0), some (.int 60)], [], hC0, 0, 0)) rfl f0 rfl ?_
    refine mEnds.steps 2 (q' := (7, [some (.int (nI N)), some (.int 0), some (.int 60)], [.int 60, .int (nI N)], hC0, 0, 0)) rfl ?_
    refine mEnds.brF (q' := (10, [some (.int (nI N)), some (.int 0), some (.int 60)], [], hC0, 0, 0)) rfl f1 rfl ?_
    refine mEnds.steps 2 (q' := (15, [some (.int (nI N)), some (.int 0), some (.int 60)], [.int 1], hC0, 0, 0)) rfl ?_
    exact mEnds.ret rfl
  show mEnds [] 20 79 (7, [some (.ref 1), some (.int (nI N)), some (.int x2), none, none, none, none, none], [.int 1], hC0, 0, 0) _
  refine mEnds.steps 4 (q' := (13, [some (.ref 1), some (.int (nI N)), some (.int x2), none, none, none, none, none], [.int 1, .int 0, .int x2], hC0, 0, 0)) rfl ?_
  refine mEnds.call (d := 19) (y' := 105) (as := [.int x2, .int 0, .int 1]) (q' := (16, [some (.ref 1), some (.int (nI N)), some (.int x2), none, none, none, none, none], [], hC0, 0, 0)) (v := some (.int 1)) (hs' := hC0) (c' := 0) (s' := 0) rfl rfl ?_ ?_
  · refine mEnds.steps 2 (q' := (2, [some (.int x2), some (.int 0), some (.int 1)], [.int 0, .int x2], hC0, 0, 0)) rfl ?_
    refine mEnds.brF (q' := (5, [some (.int x2), some (.int 0), some (.int 1)], [], hC0, 0, 0)) rfl f2 rfl ?_
    refine mEnds.steps 2 (q' := (7, [some (.int x2), some (.int 0), some (.int 1)], [.int 1, .int x2], hC0, 0, 0)) rfl ?_
    refine mEnds.brF (q' := (10, [some (.int x2), some (.int 0), some (.int 1)], [], hC0, 0, 0)) rfl f3 rfl ?_
    refine mEnds.steps 2 (q' := (15, [some (.int x2), some (.int 0), some (.int 1)], [.int 1], hC0, 0, 0)) rfl ?_
    exact mEnds.ret rfl
  show mEnds [] 20 79 (16, [some (.ref 1), some (.int (nI N)), some (.int x2), none, none, none, none, none], [.int 1], hC0, 0, 0) _
  refine mEnds.steps 4 (q' := (25, [some (.ref 1), some (.int (nI N)), some (.int x2), some (.int (-4)), none, none, none, none], [.ref 1], hC0, 0, 0)) rfl ?_
  refine mEnds.call (d := 19) (y' := 109) (as := [.ref 1]) (q' := (28, [some (.ref 1), some (.int (nI N)), some (.int x2), some (.int (-4)), none, none, none, none], [], hC0, 0, 0)) (v := some (.ref 44)) (hs' := hC0) (c' := 0) (s' := 0) rfl rfl ?_ ?_
  · exact mEnds.deep cpn 9
  show mEnds [] 20 79 (28, [some (.ref 1), some (.int (nI N)), some (.int x2), some (.int (-4)), none, none, none, none], [.ref 44], hC0, 0, 0) _
  refine mEnds.steps 1 (q' := (29, [some (.ref 1), some (.int (nI N)), some (.int x2), some (.int (-4)), none, none, none, none], [.int (nI N), .ref 44], hC0, 0, 0)) rfl ?_
  refine mEnds.call (d := 19) (y' := 22) (as := [.ref 44, .int (nI N)]) (q' := (32, [some (.ref 1), some (.int (nI N)), some (.int x2), some (.int (-4)), none, none, none, none], [], hC0, 0, 0)) (v := some (.int 0)) (hs' := (hk44 N)) (c' := 0) (s' := 0) rfl rfl ?_ ?_
  · exact mEnds.deep (ph44 hN) 1
  show mEnds [] 20 79 (32, [some (.ref 1), some (.int (nI N)), some (.int x2), some (.int (-4)), none, none, none, none], [.int 0], (hk44 N), 0, 0) _
  refine mEnds.steps 13 (q' := (98, [some (.ref 1), some (.int (nI N)), some (.int x2), some (.int (-4)), some (.int 0), some (.int 0), none, none], [.int x2, .int 0, .int (-4)], (hk44 N), 0, 0)) rfl ?_
  refine mEnds.call (d := 19) (y' := 108) (as := [.int (-4), .int 0, .int x2]) (q' := (101, [some (.ref 1), some (.int (nI N)), some (.int x2), some (.int (-4)), some (.int 0), some (.int 0), none, none], [], (hk44 N), 0, 0)) (v := some (.int (-4))) (hs' := (hk44 N)) (c' := 0) (s' := 0) rfl rfl ?_ ?_
  · refine mEnds.steps 4 (q' := (8, [some (.int (-4)), some (.int 0), some (.int x2)], [.int (-4)], (hk44 N), 0, 0)) rfl ?_
    exact mEnds.ret rfl
  show mEnds [] 20 79 (101, [some (.ref 1), some (.int (nI N)), some (.int x2), some (.int (-4)), some (.int 0), some (.int 0), none, none], [.int (-4)], (hk44 N), 0, 0) _
  exact mEnds.ret rfl
set_option maxRecDepth 100000 in
theorem m22_FFFFN (N : Nat) (hN : N ≤ 60) (x2 : Int32) (f0 : decide ((nI N) < 0) = false) (f1 : decide (60 < (nI N)) = false) (f2 : decide (x2 < 0) = false) (f3 : decide (1 < x2) = false) : ∃ hs', mEnds [] 20 162 (mentry 162 [.ref 1, .int (nI N), .int x2] hM0) (some (.int (-4)), hs', 0, 0) := by
  refine ⟨(hg N (tt N)), ?_⟩
  refine mEnds.steps 4 (q' := (6, [some (.ref 1), some (.int (nI N)), some (.int x2), none, none, none, none], [.long 60, .long 0, .long (nI N).toInt64], hM0, 0, 0)) rfl ?_
  refine mEnds.call (d := 19) (y' := 111) (as := [.long (nI N).toInt64, .long 0, .long 60]) (q' := (9, [some (.ref 1), some (.int (nI N)), some (.int x2), none, none, none, none], [], hM0, 0, 0)) (v := some (.int 1)) (hs' := hM0) (c' := 0) (s' := 0) rfl rfl ?_ ?_
  · refine mEnds.steps 3 (q' := (3, [some (.long (nI N).toInt64), none, some (.long 0), none, some (.long 60), none], [.int (lg_cmp (nI N).toInt64 0)], hM0, 0, 0)) rfl ?_
    refine mEnds.brF (q' := (6, [some (.long (nI N).toInt64), none, some (.long 0), none, some (.long 60), none], [], hM0, 0, 0)) rfl (lgc_lt (c := 0) (by decide) f0) rfl ?_
    refine mEnds.steps 3 (q' := (10, [some (.long (nI N).toInt64), none, some (.long 0), none, some (.long 60), none], [.int (lg_cmp (nI N).toInt64 60)], hM0, 0, 0)) rfl ?_
    refine mEnds.brF (q' := (13, [some (.long (nI N).toInt64), none, some (.long 0), none, some (.long 60), none], [], hM0, 0, 0)) rfl (lgc_gt (c := 60) (by decide) f1) rfl ?_
    refine mEnds.steps 2 (q' := (18, [some (.long (nI N).toInt64), none, some (.long 0), none, some (.long 60), none], [.int 1], hM0, 0, 0)) rfl ?_
    exact mEnds.ret rfl
  show mEnds [] 20 162 (9, [some (.ref 1), some (.int (nI N)), some (.int x2), none, none, none, none], [.int 1], hM0, 0, 0) _
  refine mEnds.steps 5 (q' := (16, [some (.ref 1), some (.int (nI N)), some (.int x2), none, none, none, none], [.long 1, .long 0, .long x2.toInt64], hM0, 0, 0)) rfl ?_
  refine mEnds.call (d := 19) (y' := 111) (as := [.long x2.toInt64, .long 0, .long 1]) (q' := (19, [some (.ref 1), some (.int (nI N)), some (.int x2), none, none, none, none], [], hM0, 0, 0)) (v := some (.int 1)) (hs' := hM0) (c' := 0) (s' := 0) rfl rfl ?_ ?_
  · refine mEnds.steps 3 (q' := (3, [some (.long x2.toInt64), none, some (.long 0), none, some (.long 1), none], [.int (lg_cmp x2.toInt64 0)], hM0, 0, 0)) rfl ?_
    refine mEnds.brF (q' := (6, [some (.long x2.toInt64), none, some (.long 0), none, some (.long 1), none], [], hM0, 0, 0)) rfl (lgc_lt (c := 0) (by decide) f2) rfl ?_
    refine mEnds.steps 3 (q' := (10, [some (.long x2.toInt64), none, some (.long 0), none, some (.long 1), none], [.int (lg_cmp x2.toInt64 1)], hM0, 0, 0)) rfl ?_
    refine mEnds.brF (q' := (13, [some (.long x2.toInt64), none, some (.long 0), none, some (.long 1), none], [], hM0, 0, 0)) rfl (lgc_gt (c := 1) (by decide) f3) rfl ?_
    refine mEnds.steps 2 (q' := (18, [some (.long x2.toInt64), none, some (.long 0), none, some (.long 1), none], [.int 1], hM0, 0, 0)) rfl ?_
    exact mEnds.ret rfl
  show mEnds [] 20 162 (19, [some (.ref 1), some (.int (nI N)), some (.int x2), none, none, none, none], [.int 1], hM0, 0, 0) _
  refine mEnds.steps 4 (q' := (27, [some (.ref 1), some (.int (nI N)), some (.int x2), none, none, none, none], [.int (nI N), .int 0, .ref 1], hM0, 0, 0)) rfl ?_
  refine mEnds.call (d := 19) (y' := 153) (as := [.ref 1, .int 0, .int (nI N)]) (q' := (30, [some (.ref 1), some (.int (nI N)), some (.int x2), none, none, none, none], [], hM0, 0, 0)) (v := some (.int 0)) (hs' := (hg N (tt N))) (c' := 0) (s' := 0) rfl rfl ?_ ?_
  · exact mEnds.deep (hgo hN) 1
  show mEnds [] 20 162 (30, [some (.ref 1), some (.int (nI N)), some (.int x2), none, none, none, none], [.int 0], (hg N (tt N)), 0, 0) _
  refine mEnds.steps 16 (q' := (131, [some (.ref 1), some (.int (nI N)), some (.int x2), some (.int 0), some (.int (-4)), some (.int 0), none], [.int (-4)], (hg N (tt N)), 0, 0)) rfl ?_
  exact mEnds.ret rfl
theorem ok_22 (x1 x2 x3 x4 x5 : Int32) : callOK_22 x1 x2 x3 x4 x5 := by
  cases f0 : decide (x1 < 0) with
  | true =>
    obtain ⟨h1, a1⟩ := c22_T x1 x2 f0
    obtain ⟨h2, a2⟩ := m22_T x1 x2 f0
    exact ⟨_, h1, h2, a1, a2⟩
  | false =>
    cases f1 : decide (60 < x1) with
    | true =>
      obtain ⟨h1, a1⟩ := c22_FT x1 x2 f0 f1
      obtain ⟨h2, a2⟩ := m22_FT x1 x2 f0 f1
      exact ⟨_, h1, h2, a1, a2⟩
    | false =>
      cases f2 : decide (x2 < 0) with
      | true =>
        obtain ⟨h1, a1⟩ := c22_FFT x1 x2 f0 f1 f2
        obtain ⟨h2, a2⟩ := m22_FFT x1 x2 f0 f1 f2
        exact ⟨_, h1, h2, a1, a2⟩
      | false =>
        cases f3 : decide (1 < x2) with
        | true =>
          obtain ⟨h1, a1⟩ := c22_FFFT x1 x2 f0 f1 f2 f3
          obtain ⟨h2, a2⟩ := m22_FFFT x1 x2 f0 f1 f2 f3
          exact ⟨_, h1, h2, a1, a2⟩
        | false =>
          obtain ⟨N, hN, eN⟩ := i32_rng (n := 61) f0 f1 (by decide)
          obtain rfl := i32_nI eN (by omega)
          replace hN : N ≤ 60 := by omega
          clear eN
          obtain ⟨h1, a1⟩ := c22_FFFFN N hN x2 f0 f1 f2 f3
          obtain ⟨h2, a2⟩ := m22_FFFFN N hN x2 f0 f1 f2 f3
          exact ⟨_, h1, h2, a1, a2⟩
set_option maxRecDepth 100000 in
theorem c32_T (x1 : Int32) (f0 : decide (x1 < 0) = true) : ∃ hs', mEnds [] 20 98 (mentry 98 [.ref 1, .int x1] hC0) (some (.int (-1)), hs', 0, 0) := by
  refine ⟨hC0, ?_⟩
  refine mEnds.steps 3 (q' := (3, [some (.ref 1), some (.int x1), none], [.int 1, .int 0, .int x1], hC0, 0, 0)) rfl ?_
  refine mEnds.call (d := 19) (y' := 105) (as := [.int x1, .int 0, .int 1]) (q' := (6, [some (.ref 1), some (.int x1), none], [], hC0, 0, 0)) (v := some (.int 0)) (hs' := hC0) (c' := 0) (s' := 0) rfl rfl ?_ ?_
  · refine mEnds.steps 2 (q' := (2, [some (.int x1), some (.int 0), some (.int 1)], [.int 0, .int x1], hC0, 0, 0)) rfl ?_
    refine mEnds.brT (q' := (14, [some (.int x1), some (.int 0), some (.int 1)], [], hC0, 0, 0)) rfl f0 rfl ?_
    refine mEnds.steps 1 (q' := (15, [some (.int x1), some (.int 0), some (.int 1)], [.int 0], hC0, 0, 0)) rfl ?_
    exact mEnds.ret rfl
  show mEnds [] 20 98 (6, [some (.ref 1), some (.int x1), none], [.int 0], hC0, 0, 0) _
  refine mEnds.steps 2 (q' := (10, [some (.ref 1), some (.int x1), none], [.int (-1)], hC0, 0, 0)) rfl ?_
  exact mEnds.ret rfl
set_option maxRecDepth 100000 in
theorem m32_T (x1 : Int32) (f0 : decide (x1 < 0) = true) : ∃ hs', mEnds [] 20 177 (mentry 177 [.ref 1, .int x1] hM0) (some (.int (-1)), hs', 0, 0) := by
  refine ⟨hM0, ?_⟩
  refine mEnds.steps 4 (q' := (4, [some (.ref 1), some (.int x1), none], [.long 1, .long 0, .long x1.toInt64], hM0, 0, 0)) rfl ?_
  refine mEnds.call (d := 19) (y' := 111) (as := [.long x1.toInt64, .long 0, .long 1]) (q' := (7, [some (.ref 1), some (.int x1), none], [], hM0, 0, 0)) (v := some (.int 0)) (hs' := hM0) (c' := 0) (s' := 0) rfl rfl ?_ ?_
  · refine mEnds.steps 3 (q' := (3, [some (.long x1.toInt64), none, some (.long 0), none, some (.long 1), none], [.int (lg_cmp x1.toInt64 0)], hM0, 0, 0)) rfl ?_
    refine mEnds.brT (q' := (17, [some (.long x1.toInt64), none, some (.long 0), none, some (.long 1), none], [], hM0, 0, 0)) rfl (lgc_lt (c := 0) (by decide) f0) rfl ?_
    refine mEnds.steps 1 (q' := (18, [some (.long x1.toInt64), none, some (.long 0), none, some (.long 1), none], [.int 0], hM0, 0, 0)) rfl ?_
    exact mEnds.ret rfl
  show mEnds [] 20 177 (7, [some (.ref 1), some (.int x1), none], [.int 0], hM0, 0, 0) _
  refine mEnds.steps 2 (q' := (11, [some (.ref 1), some (.int x1), none], [.int (-1)], hM0, 0, 0)) rfl ?_
  exact mEnds.ret rfl
set_option maxRecDepth 100000 in
theorem c32_FT (x1 : Int32) (f0 : decide (x1 < 0) = false) (f1 : decide (1 < x1) = true) : ∃ hs', mEnds [] 20 98 (mentry 98 [.ref 1, .int x1] hC0) (some (.int (-1)), hs', 0, 0) := by
  refine ⟨hC0, ?_⟩
  refine mEnds.steps 3 (q' := (3, [some (.ref 1), some (.int x1), none], [.int 1, .int 0, .int x1], hC0, 0, 0)) rfl ?_
  refine mEnds.call (d := 19) (y' := 105) (as := [.int x1, .int 0, .int 1]) (q' := (6, [some (.ref 1), some (.int x1), none], [], hC0, 0, 0)) (v := some (.int 0)) (hs' := hC0) (c' := 0) (s' := 0) rfl rfl ?_ ?_
  · refine mEnds.steps 2 (q' := (2, [some (.int x1), some (.int 0), some (.int 1)], [.int 0, .int x1], hC0, 0, 0)) rfl ?_
    refine mEnds.brF (q' := (5, [some (.int x1), some (.int 0), some (.int 1)], [], hC0, 0, 0)) rfl f0 rfl ?_
    refine mEnds.steps 2 (q' := (7, [some (.int x1), some (.int 0), some (.int 1)], [.int 1, .int x1], hC0, 0, 0)) rfl ?_
    refine mEnds.brT (q' := (14, [some (.int x1), some (.int 0), some (.int 1)], [], hC0, 0, 0)) rfl f1 rfl ?_
    refine mEnds.steps 1 (q' := (15, [some (.int x1), some (.int 0), some (.int 1)], [.int 0], hC0, 0, 0)) rfl ?_
    exact mEnds.ret rfl
  show mEnds [] 20 98 (6, [some (.ref 1), some (.int x1), none], [.int 0], hC0, 0, 0) _
  refine mEnds.steps 2 (q' := (10, [some (.ref 1), some (.int x1), none], [.int (-1)], hC0, 0, 0)) rfl ?_
  exact mEnds.ret rfl
set_option maxRecDepth 100000 in
theorem m32_FT (x1 : Int32) (f0 : decide (x1 < 0) = false) (f1 : decide (1 < x1) = true) : ∃ hs', mEnds [] 20 177 (mentry 177 [.ref 1, .int x1] hM0) (some (.int (-1)), hs', 0, 0) := by
  refine ⟨hM0, ?_⟩
  refine mEnds.steps 4 (q' := (4, [some (.ref 1), some (.int x1), none], [.long 1, .long 0, .long x1.toInt64], hM0, 0, 0)) rfl ?_
  refine mEnds.call (d := 19) (y' := 111) (as := [.long x1.toInt64, .long 0, .long 1]) (q' := (7, [some (.ref 1), some (.int x1), none], [], hM0, 0, 0)) (v := some (.int 0)) (hs' := hM0) (c' := 0) (s' := 0) rfl rfl ?_ ?_
  · refine mEnds.steps 3 (q' := (3, [some (.long x1.toInt64), none, some (.long 0), none, some (.long 1), none], [.int (lg_cmp x1.toInt64 0)], hM0, 0, 0)) rfl ?_
    refine mEnds.brF (q' := (6, [some (.long x1.toInt64), none, some (.long 0), none, some (.long 1), none], [], hM0, 0, 0)) rfl (lgc_lt (c := 0) (by decide) f0) rfl ?_
    refine mEnds.steps 3 (q' := (10, [some (.long x1.toInt64), none, some (.long 0), none, some (.long 1), none], [.int (lg_cmp x1.toInt64 1)], hM0, 0, 0)) rfl ?_
    refine mEnds.brT (q' := (17, [some (.long x1.toInt64), none, some (.long 0), none, some (.long 1), none], [], hM0, 0, 0)) rfl (lgc_gt (c := 1) (by decide) f1) rfl ?_
    refine mEnds.steps 1 (q' := (18, [some (.long x1.toInt64), none, some (.long 0), none, some (.long 1), none], [.int 0], hM0, 0, 0)) rfl ?_
    exact mEnds.ret rfl
  show mEnds [] 20 177 (7, [some (.ref 1), some (.int x1), none], [.int 0], hM0, 0, 0) _
  refine mEnds.steps 2 (q' := (11, [some (.ref 1), some (.int x1), none], [.int (-1)], hM0, 0, 0)) rfl ?_
  exact mEnds.ret rfl
set_option maxRecDepth 100000 in
theorem c32_FFv0   : ∃ hs', mEnds [] 20 98 (mentry 98 [.ref 1, .int 0] hC0) (some (.int 0), hs', 0, 0) := by
  refine ⟨(((((((((((((hC0.set 28 (.inr (1, [.int 0, .int 0, .int 0, .int 0, .int 0, .ref 29, .ref 30, .ref 31, .ref 32, .ref 33, .ref 34, .ref 35]))).set 28 (.inr (1, [.int 0, .int 0, .int 0, .int 0, .int 0, .ref 29, .ref 30, .ref 31, .ref 32, .ref 33, .ref 34, .ref 35]))).set 28 (.inr (1, [.int 0, .int 0, .int 0, .int 0, .int 0, .ref 29, .ref 30, .ref 31, .ref 32, .ref 33, .ref 34, .ref 35]))).set 28 (.inr (1, [.int 0, .int 0, .int 0, .int 0, .int 0, .ref 29, .ref 30, .ref 31, .ref 32, .ref 33, .ref 34, .ref 35]))).set 28 (.inr (1, [.int 0, .int 0, .int 0, .int 0, .int 0, .ref 29, .ref 30, .ref 31, .ref 32, .ref 33, .ref 34, .ref 35]))).set 29 (.inl (0, [0, 0, 0, 0, 0, 0]))).set 30 (.inl (0, [0, 0, 0, 0, 0, 0]))).set 31 (.inl (0, [0, 0, 0, 0, 0, 0]))).set 32 (.inl (0, [(-1), (-1), (-1), (-1), (-1), (-1)]))).set 33 (.inl (0, [0, 0, 0, 0, 0, 0]))).set 34 (.inl (0, [2, 2, 2, 2, 2]))).set 35 (.inl (0, [10, 10, 10, 10, 10, 10, 10, 10]))).set 11 (.inl (2, [1, 0]))), ?_⟩
  refine mEnds.steps 3 (q' := (3, [some (.ref 1), some (.int 0), none], [.int 1, .int 0, .int 0], hC0, 0, 0)) rfl ?_
  refine mEnds.call (d := 19) (y' := 105) (as := [.int 0, .int 0, .int 1]) (q' := (6, [some (.ref 1), some (.int 0), none], [], hC0, 0, 0)) (v := some (.int 1)) (hs' := hC0) (c' := 0) (s' := 0) rfl rfl ?_ ?_
  · refine mEnds.steps 8 (q' := (15, [some (.int 0), some (.int 0), some (.int 1)], [.int 1], hC0, 0, 0)) rfl ?_
    exact mEnds.ret rfl
  show mEnds [] 20 98 (6, [some (.ref 1), some (.int 0), none], [.int 1], hC0, 0, 0) _
  refine mEnds.steps 14 (q' := (36, [some (.ref 1), some (.int 0), some (.int 0)], [.ref 2, .ref 28], hC0, 0, 0)) rfl ?_
  refine mEnds.call (d := 19) (y' := 7) (as := [.ref 28, .ref 2]) (q' := (39, [some (.ref 1), some (.int 0), some (.int 0)], [], hC0, 0, 0)) (v := none) (hs' := ((((((((((((hC0.set 28 (.inr (1, [.int 0, .int 0, .int 0, .int 0, .int 0, .ref 29, .ref 30, .ref 31, .ref 32, .ref 33, .ref 34, .ref 35]))).set 28 (.inr (1, [.int 0, .int 0, .int 0, .int 0, .int 0, .ref 29, .ref 30, .ref 31, .ref 32, .ref 33, .ref 34, .ref 35]))).set 28 (.inr (1, [.int 0, .int 0, .int 0, .int 0, .int 0, .ref 29, .ref 30, .ref 31, .ref 32, .ref 33, .ref 34, .ref 35]))).set 28 (.inr (1, [.int 0, .int 0, .int 0, .int 0, .int 0, .ref 29, .ref 30, .ref 31, .ref 32, .ref 33, .ref 34, .ref 35]))).set 28 (.inr (1, [.int 0, .int 0, .int 0, .int 0, .int 0, .ref 29, .ref 30, .ref 31, .ref 32, .ref 33, .ref 34, .ref 35]))).set 29 (.inl (0, [0, 0, 0, 0, 0, 0]))).set 30 (.inl (0, [0, 0, 0, 0, 0, 0]))).set 31 (.inl (0, [0, 0, 0, 0, 0, 0]))).set 32 (.inl (0, [(-1), (-1), (-1), (-1), (-1), (-1)]))).set 33 (.inl (0, [0, 0, 0, 0, 0, 0]))).set 34 (.inl (0, [2, 2, 2, 2, 2]))).set 35 (.inl (0, [10, 10, 10, 10, 10, 10, 10, 10])))) (c' := 0) (s' := 0) rfl rfl ?_ ?_
  · refine mEnds.steps 25 (q' := (49, [some (.ref 28), some (.ref 2)], [.ref 29, .int 0, .ref 3], (((((hC0.set 28 (.inr (1, [.int 0, .int 0, .int 0, .int 0, .int 0, .ref 29, .ref 30, .ref 31, .ref 32, .ref 33, .ref 34, .ref 35]))).set 28 (.inr (1, [.int 0, .int 0, .int 0, .int 0, .int 0, .ref 29, .ref 30, .ref 31, .ref 32, .ref 33, .ref 34, .ref 35]))).set 28 (.inr (1, [.int 0, .int 0, .int 0, .int 0, .int 0, .ref 29, .ref 30, .ref 31, .ref 32, .ref 33, .ref 34, .ref 35]))).set 28 (.inr (1, [.int 0, .int 0, .int 0, .int 0, .int 0, .ref 29, .ref 30, .ref 31, .ref 32, .ref 33, .ref 34, .ref 35]))).set 28 (.inr (1, [.int 0, .int 0, .int 0, .int 0, .int 0, .ref 29, .ref 30, .ref 31, .ref 32, .ref 33, .ref 34, .ref 35]))), 0, 0)) rfl ?_
    refine mEnds.steps 25 (q' := (95, [some (.ref 28), some (.ref 2)], [.int 0, .ref 32, .int 0, .ref 6], ((((((((hC0.set 28 (.inr (1, [.int 0, .int 0, .int 0, .int 0, .int 0, .ref 29, .ref 30, .ref 31, .ref 32, .ref 33, .ref 34, .ref 35]))).set 28 (.inr (1, [.int 0, .int 0, .int 0, .int 0, .int 0, .ref 29, .ref 30, .ref 31, .ref 32, .ref 33, .ref 34, .ref 35]))).set 28 (.inr (1, [.int 0, .int 0, .int 0, .int 0, .int 0, .ref 29, .ref 30, .ref 31, .ref 32, .ref 33, .ref 34, .ref 35]))).set 28 (.inr (1, [.int 0, .int 0, .int 0, .int 0, .int 0, .ref 29, .ref 30, .ref 31, .ref 32, .ref 33, .ref 34, .ref 35]))).set 28 (.inr (1, [.int 0, .int 0, .int 0, .int 0, .int 0, .ref 29, .ref 30, .ref 31, .ref 32, .ref 33, .ref 34, .ref 35]))).set 29 (.inl (0, [0, 0, 0, 0, 0, 0]))).set 30 (.inl (0, [0, 0, 0, 0, 0, 0]))).set 31 (.inl (0, [0, 0, 0, 0, 0, 0]))), 0, 0)) rfl ?_
    refine mEnds.steps 25 (q' := (141, [some (.ref 28), some (.ref 2)], [.int 8, .int 0, .ref 35, .int 0, .ref 9], (((((((((((hC0.set 28 (.inr (1, [.int 0, .int 0, .int 0, .int 0, .int 0, .ref 29, .ref 30, .ref 31, .ref 32, .ref 33, .ref 34, .ref 35]))).set 28 (.inr (1, [.int 0, .int 0, .int 0, .int 0, .int 0, .ref 29, .ref 30, .ref 31, .ref 32, .ref 33, .ref 34, .ref 35]))).set 28 (.inr (1, [.int 0, .int 0, .int 0, .int 0, .int 0, .ref 29, .ref 30, .ref 31, .ref 32, .ref 33, .ref 34, .ref 35]))).set 28 (.inr (1, [.int 0, .int 0, .int 0, .int 0, .int 0, .ref 29, .ref 30, .ref 31, .ref 32, .ref 33, .ref 34, .ref 35]))).set 28 (.inr (1, [.int 0, .int 0, .int 0, .int 0, .int 0, .ref 29, .ref 30, .ref 31, .ref 32, .ref 33, .ref 34, .ref 35]))).set 29 (.inl (0, [0, 0, 0, 0, 0, 0]))).set 30 (.inl (0, [0, 0, 0, 0, 0, 0]))).set 31 (.inl (0, [0, 0, 0, 0, 0, 0]))).set 32 (.inl (0, [(-1), (-1), (-1), (-1), (-1), (-1)]))).set 33 (.inl (0, [0, 0, 0, 0, 0, 0]))).set 34 (.inl (0, [2, 2, 2, 2, 2]))), 0, 0)) rfl ?_
    refine mEnds.steps 1 (q' := (144, [some (.ref 28), some (.ref 2)], [], ((((((((((((hC0.set 28 (.inr (1, [.int 0, .int 0, .int 0, .int 0, .int 0, .ref 29, .ref 30, .ref 31, .ref 32, .ref 33, .ref 34, .ref 35]))).set 28 (.inr (1, [.int 0, .int 0, .int 0, .int 0, .int 0, .ref 29, .ref 30, .ref 31, .ref 32, .ref 33, .ref 34, .ref 35]))).set 28 (.inr (1, [.int 0, .int 0, .int 0, .int 0, .int 0, .ref 29, .ref 30, .ref 31, .ref 32, .ref 33, .ref 34, .ref 35]))).set 28 (.inr (1, [.int 0, .int 0, .int 0, .int 0, .int 0, .ref 29, .ref 30, .ref 31, .ref 32, .ref 33, .ref 34, .ref 35]))).set 28 (.inr (1, [.int 0, .int 0, .int 0, .int 0, .int 0, .ref 29, .ref 30, .ref 31, .ref 32, .ref 33, .ref 34, .ref 35]))).set 29 (.inl (0, [0, 0, 0, 0, 0, 0]))).set 30 (.inl (0, [0, 0, 0, 0, 0, 0]))).set 31 (.inl (0, [0, 0, 0, 0, 0, 0]))).set 32 (.inl (0, [(-1), (-1), (-1), (-1), (-1), (-1)]))).set 33 (.inl (0, [0, 0, 0, 0, 0, 0]))).set 34 (.inl (0, [2, 2, 2, 2, 2]))).set 35 (.inl (0, [10, 10, 10, 10, 10, 10, 10, 10]))), 0, 0)) rfl ?_
    exact mEnds.ret rfl
  show mEnds [] 20 98 (39, [some (.ref 1), some (.int 0), some (.int 0)], [], ((((((((((((hC0.set 28 (.inr (1, [.int 0, .int 0, .int 0, .int 0, .int 0, .ref 29, .ref 30, .ref 31, .ref 32, .ref 33, .ref 34, .ref 35]))).set 28 (.inr (1, [.int 0, .int 0, .int 0, .int 0, .int 0, .ref 29, .ref 30, .ref 31, .ref 32, .ref 33, .ref 34, .ref 35]))).set 28 (.inr (1, [.int 0, .int 0, .int 0, .int 0, .int 0, .ref 29, .ref 30, .ref 31, .ref 32, .ref 33, .ref 34, .ref 35]))).set 28 (.inr (1, [.int 0, .int 0, .int 0, .int 0, .int 0, .ref 29, .ref 30, .ref 31, .ref 32, .ref 33, .ref 34, .ref 35]))).set 28 (.inr (1, [.int 0, .int 0, .int 0, .int 0, .int 0, .ref 29, .ref 30, .ref 31, .ref 32, .ref 33, .ref 34, .ref 35]))).set 29 (.inl (0, [0, 0, 0, 0, 0, 0]))).set 30 (.inl (0, [0, 0, 0, 0, 0, 0]))).set 31 (.inl (0, [0, 0, 0, 0, 0, 0]))).set 32 (.inl (0, [(-1), (-1), (-1), (-1), (-1), (-1)]))).set 33 (.inl (0, [0, 0, 0, 0, 0, 0]))).set 34 (.inl (0, [2, 2, 2, 2, 2]))).set 35 (.inl (0, [10, 10, 10, 10, 10, 10, 10, 10]))), 0, 0) _
  refine mEnds.steps 6 (q' := (47, [some (.ref 1), some (.int 0), some (.int 0)], [.int 0], (((((((((((((hC0.set 28 (.inr (1, [.int 0, .int 0, .int 0, .int 0, .int 0, .ref 29, .ref 30, .ref 31, .ref 32, .ref 33, .ref 34, .ref 35]))).set 28 (.inr (1, [.int 0, .int 0, .int 0, .int 0, .int 0, .ref 29, .ref 30, .ref 31, .ref 32, .ref 33, .ref 34, .ref 35]))).set 28 (.inr (1, [.int 0, .int 0, .int 0, .int 0, .int 0, .ref 29, .ref 30, .ref 31, .ref 32, .ref 33, .ref 34, .ref 35]))).set 28 (.inr (1, [.int 0, .int 0, .int 0, .int 0, .int 0, .ref 29, .ref 30, .ref 31, .ref 32, .ref 33, .ref 34, .ref 35]))).set 28 (.inr (1, [.int 0, .int 0, .int 0, .int 0, .int 0, .ref 29, .ref 30, .ref 31, .ref 32, .ref 33, .ref 34, .ref 35]))).set 29 (.inl (0, [0, 0, 0, 0, 0, 0]))).set 30 (.inl (0, [0, 0, 0, 0, 0, 0]))).set 31 (.inl (0, [0, 0, 0, 0, 0, 0]))).set 32 (.inl (0, [(-1), (-1), (-1), (-1), (-1), (-1)]))).set 33 (.inl (0, [0, 0, 0, 0, 0, 0]))).set 34 (.inl (0, [2, 2, 2, 2, 2]))).set 35 (.inl (0, [10, 10, 10, 10, 10, 10, 10, 10]))).set 11 (.inl (2, [1, 0]))), 0, 0)) rfl ?_
  exact mEnds.ret rfl
set_option maxRecDepth 100000 in
theorem m32_FFv0   : ∃ hs', mEnds [] 20 177 (mentry 177 [.ref 1, .int 0] hM0) (some (.int 0), hs', 0, 0) := by
  refine ⟨(hM0.set 10 (.inl (2, [1, 0]))), ?_⟩
  refine mEnds.steps 4 (q' := (4, [some (.ref 1), some (.int 0), none], [.long 1, .long 0, .long 0], hM0, 0, 0)) rfl ?_
  refine mEnds.call (d := 19) (y' := 111) (as := [.long 0, .long 0, .long 1]) (q' := (7, [some (.ref 1), some (.int 0), none], [], hM0, 0, 0)) (v := some (.int 1)) (hs' := hM0) (c' := 0) (s' := 0) rfl rfl ?_ ?_
  · refine mEnds.steps 10 (q' := (18, [some (.long 0), none, some (.long 0), none, some (.long 1), none], [.int 1], hM0, 0, 0)) rfl ?_
    exact mEnds.ret rfl
  show mEnds [] 20 177 (7, [some (.ref 1), some (.int 0), none], [.int 1], hM0, 0, 0) _
  refine mEnds.steps 8 (q' := (20, [some (.ref 1), some (.int 0), none], [.int 52, .int 0, .ref 1], hM0, 0, 0)) rfl ?_
  refine mEnds.call (d := 19) (y' := 152) (as := [.ref 1, .int 0, .int 52]) (q' := (23, [some (.ref 1), some (.int 0), none], [], hM0, 0, 0)) (v := none) (hs' := hM0) (c' := 0) (s' := 0) rfl rfl ?_ ?_
  · exact mEnds.deep cp_0_52 9
  show mEnds [] 20 177 (23, [some (.ref 1), some (.int 0), none], [], hM0, 0, 0) _
  refine mEnds.steps 13 (q' := (46, [some (.ref 1), some (.int 0), some (.int 0)], [.int 0], (hM0.set 10 (.inl (2, [1, 0]))), 0, 0)) rfl ?_
  exact mEnds.ret rfl
set_option maxRecDepth 100000 in
theorem c32_FFv1   : ∃ hs', mEnds [] 20 98 (mentry 98 [.ref 1, .int 1] hC0) (some (.int 0), hs', 0, 0) := by
  refine ⟨(((((((((((((hC0.set 36 (.inr (1, [.int 0, .int 0, .int 0, .int 0, .int 0, .ref 37, .ref 38, .ref 39, .ref 40, .ref 41, .ref 42, .ref 43]))).set 36 (.inr (1, [.int 0, .int 0, .int 0, .int 0, .int 0, .ref 37, .ref 38, .ref 39, .ref 40, .ref 41, .ref 42, .ref 43]))).set 36 (.inr (1, [.int 0, .int 0, .int 0, .int 0, .int 0, .ref 37, .ref 38, .ref 39, .ref 40, .ref 41, .ref 42, .ref 43]))).set 36 (.inr (1, [.int 0, .int 0, .int 0, .int 0, .int 0, .ref 37, .ref 38, .ref 39, .ref 40, .ref 41, .ref 42, .ref 43]))).set 36 (.inr (1, [.int 0, .int 0, .int 0, .int 0, .int 0, .ref 37, .ref 38, .ref 39, .ref 40, .ref 41, .ref 42, .ref 43]))).set 37 (.inl (0, [0, 0, 0, 0, 0, 0]))).set 38 (.inl (0, [0, 0, 0, 0, 0, 0]))).set 39 (.inl (0, [0, 0, 0, 0, 0, 0]))).set 40 (.inl (0, [(-1), (-1), (-1), (-1), (-1), (-1)]))).set 41 (.inl (0, [0, 0, 0, 0, 0, 0]))).set 42 (.inl (0, [2, 2, 2, 2, 2]))).set 43 (.inl (0, [10, 10, 10, 10, 10, 10, 10, 10]))).set 11 (.inl (2, [0, 1]))), ?_⟩
  refine mEnds.steps 3 (q' := (3, [some (.ref 1), some (.int 1), none], [.int 1, .int 0, .int 1], hC0, 0, 0)) rfl ?_
  refine mEnds.call (d := 19) (y' := 105) (as := [.int 1, .int 0, .int 1]) (q' := (6, [some (.ref 1), some (.int 1), none], [], hC0, 0, 0)) (v := some (.int 1)) (hs' := hC0) (c' := 0) (s' := 0) rfl rfl ?_ ?_
  · refine mEnds.steps 8 (q' := (15, [some (.int 1), some (.int 0), some (.int 1)], [.int 1], hC0, 0, 0)) rfl ?_
    exact mEnds.ret rfl
  show mEnds [] 20 98 (6, [some (.ref 1), some (.int 1), none], [.int 1], hC0, 0, 0) _
  refine mEnds.steps 14 (q' := (36, [some (.ref 1), some (.int 1), some (.int 0)], [.ref 2, .ref 36], hC0, 0, 0)) rfl ?_
  refine mEnds.call (d := 19) (y' := 7) (as := [.ref 36, .ref 2]) (q' := (39, [some (.ref 1), some (.int 1), some (.int 0)], [], hC0, 0, 0)) (v := none) (hs' := ((((((((((((hC0.set 36 (.inr (1, [.int 0, .int 0, .int 0, .int 0, .int 0, .ref 37, .ref 38, .ref 39, .ref 40, .ref 41, .ref 42, .ref 43]))).set 36 (.inr (1, [.int 0, .int 0, .int 0, .int 0, .int 0, .ref 37, .ref 38, .ref 39, .ref 40, .ref 41, .ref 42, .ref 43]))).set 36 (.inr (1, [.int 0, .int 0, .int 0, .int 0, .int 0, .ref 37, .ref 38, .ref 39, .ref 40, .ref 41, .ref 42, .ref 43]))).set 36 (.inr (1, [.int 0, .int 0, .int 0, .int 0, .int 0, .ref 37, .ref 38, .ref 39, .ref 40, .ref 41, .ref 42, .ref 43]))).set 36 (.inr (1, [.int 0, .int 0, .int 0, .int 0, .int 0, .ref 37, .ref 38, .ref 39, .ref 40, .ref 41, .ref 42, .ref 43]))).set 37 (.inl (0, [0, 0, 0, 0, 0, 0]))).set 38 (.inl (0, [0, 0, 0, 0, 0, 0]))).set 39 (.inl (0, [0, 0, 0, 0, 0, 0]))).set 40 (.inl (0, [(-1), (-1), (-1), (-1), (-1), (-1)]))).set 41 (.inl (0, [0, 0, 0, 0, 0, 0]))).set 42 (.inl (0, [2, 2, 2, 2, 2]))).set 43 (.inl (0, [10, 10, 10, 10, 10, 10, 10, 10])))) (c' := 0) (s' := 0) rfl rfl ?_ ?_
  · refine mEnds.steps 25 (q' := (49, [some (.ref 36), some (.ref 2)], [.ref 37, .int 0, .ref 3], (((((hC0.set 36 (.inr (1, [.int 0, .int 0, .int 0, .int 0, .int 0, .ref 37, .ref 38, .ref 39, .ref 40, .ref 41, .ref 42, .ref 43]))).set 36 (.inr (1, [.int 0, .int 0, .int 0, .int 0, .int 0, .ref 37, .ref 38, .ref 39, .ref 40, .ref 41, .ref 42, .ref 43]))).set 36 (.inr (1, [.int 0, .int 0, .int 0, .int 0, .int 0, .ref 37, .ref 38, .ref 39, .ref 40, .ref 41, .ref 42, .ref 43]))).set 36 (.inr (1, [.int 0, .int 0, .int 0, .int 0, .int 0, .ref 37, .ref 38, .ref 39, .ref 40, .ref 41, .ref 42, .ref 43]))).set 36 (.inr (1, [.int 0, .int 0, .int 0, .int 0, .int 0, .ref 37, .ref 38, .ref 39, .ref 40, .ref 41, .ref 42, .ref 43]))), 0, 0)) rfl ?_
    refine mEnds.steps 25 (q' := (95, [some (.ref 36), some (.ref 2)], [.int 0, .ref 40, .int 0, .ref 6], ((((((((hC0.set 36 (.inr (1, [.int 0, .int 0, .int 0, .int 0, .int 0, .ref 37, .ref 38, .ref 39, .ref 40, .ref 41, .ref 42, .ref 43]))).set 36 (.inr (1, [.int 0, .int 0, .int 0, .int 0, .int 0, .ref 37, .ref 38, .ref 39, .ref 40, .ref 41, .ref 42, .ref 43]))).set 36 (.inr (1, [.int 0, .int 0, .int 0, .int 0, .int 0, .ref 37, .ref 38, .ref 39, .ref 40, .ref 41, .ref 42, .ref 43]))).set 36 (.inr (1, [.int 0, .int 0, .int 0, .int 0, .int 0, .ref 37, .ref 38, .ref 39, .ref 40, .ref 41, .ref 42, .ref 43]))).set 36 (.inr (1, [.int 0, .int 0, .int 0, .int 0, .int 0, .ref 37, .ref 38, .ref 39, .ref 40, .ref 41, .ref 42, .ref 43]))).set 37 (.inl (0, [0, 0, 0, 0, 0, 0]))).set 38 (.inl (0, [0, 0, 0, 0, 0, 0]))).set 39 (.inl (0, [0, 0, 0, 0, 0, 0]))), 0, 0)) rfl ?_
    refine mEnds.steps 25 (q' := (141, [some (.ref 36), some (.ref 2)], [.int 8, .int 0, .ref 43, .int 0, .ref 9], (((((((((((hC0.set 36 (.inr (1, [.int 0, .int 0, .int 0, .int 0, .int 0, .ref 37, .ref 38, .ref 39, .ref 40, .ref 41, .ref 42, .ref 43]))).set 36 (.inr (1, [.int 0, .int 0, .int 0, .int 0, .int 0, .ref 37, .ref 38, .ref 39, .ref 40, .ref 41, .ref 42, .ref 43]))).set 36 (.inr (1, [.int 0, .int 0, .int 0, .int 0, .int 0, .ref 37, .ref 38, .ref 39, .ref 40, .ref 41, .ref 42, .ref 43]))).set 36 (.inr (1, [.int 0, .int 0, .int 0, .int 0, .int 0, .ref 37, .ref 38, .ref 39, .ref 40, .ref 41, .ref 42, .ref 43]))).set 36 (.inr (1, [.int 0, .int 0, .int 0, .int 0, .int 0, .ref 37, .ref 38, .ref 39, .ref 40, .ref 41, .ref 42, .ref 43]))).set 37 (.inl (0, [0, 0, 0, 0, 0, 0]))).set 38 (.inl (0, [0, 0, 0, 0, 0, 0]))).set 39 (.inl (0, [0, 0, 0, 0, 0, 0]))).set 40 (.inl (0, [(-1), (-1), (-1), (-1), (-1), (-1)]))).set 41 (.inl (0, [0, 0, 0, 0, 0, 0]))).set 42 (.inl (0, [2, 2, 2, 2, 2]))), 0, 0)) rfl ?_
    refine mEnds.steps 1 (q' := (144, [some (.ref 36), some (.ref 2)], [], ((((((((((((hC0.set 36 (.inr (1, [.int 0, .int 0, .int 0, .int 0, .int 0, .ref 37, .ref 38, .ref 39, .ref 40, .ref 41, .ref 42, .ref 43]))).set 36 (.inr (1, [.int 0, .int 0, .int 0, .int 0, .int 0, .ref 37, .ref 38, .ref 39, .ref 40, .ref 41, .ref 42, .ref 43]))).set 36 (.inr (1, [.int 0, .int 0, .int 0, .int 0, .int 0, .ref 37, .ref 38, .ref 39, .ref 40, .ref 41, .ref 42, .ref 43]))).set 36 (.inr (1, [.int 0, .int 0, .int 0, .int 0, .int 0, .ref 37, .ref 38, .ref 39, .ref 40, .ref 41, .ref 42, .ref 43]))).set 36 (.inr (1, [.int 0, .int 0, .int 0, .int 0, .int 0, .ref 37, .ref 38, .ref 39, .ref 40, .ref 41, .ref 42, .ref 43]))).set 37 (.inl (0, [0, 0, 0, 0, 0, 0]))).set 38 (.inl (0, [0, 0, 0, 0, 0, 0]))).set 39 (.inl (0, [0, 0, 0, 0, 0, 0]))).set 40 (.inl (0, [(-1), (-1), (-1), (-1), (-1), (-1)]))).set 41 (.inl (0, [0, 0, 0, 0, 0, 0]))).set 42 (.inl (0, [2, 2, 2, 2, 2]))).set 43 (.inl (0, [10, 10, 10, 10, 10, 10, 10, 10]))), 0, 0)) rfl ?_
    exact mEnds.ret rfl
  show mEnds [] 20 98 (39, [some (.ref 1), some (.int 1), some (.int 0)], [], ((((((((((((hC0.set 36 (.inr (1, [.int 0, .int 0, .int 0, .int 0, .int 0, .ref 37, .ref 38, .ref 39, .ref 40, .ref 41, .ref 42, .ref 43]))).set 36 (.inr (1, [.int 0, .int 0, .int 0, .int 0, .int 0, .ref 37, .ref 38, .ref 39, .ref 40, .ref 41, .ref 42, .ref 43]))).set 36 (.inr (1, [.int 0, .int 0, .int 0, .int 0, .int 0, .ref 37, .ref 38, .ref 39, .ref 40, .ref 41, .ref 42, .ref 43]))).set 36 (.inr (1, [.int 0, .int 0, .int 0, .int 0, .int 0, .ref 37, .ref 38, .ref 39, .ref 40, .ref 41, .ref 42, .ref 43]))).set 36 (.inr (1, [.int 0, .int 0, .int 0, .int 0, .int 0, .ref 37, .ref 38, .ref 39, .ref 40, .ref 41, .ref 42, .ref 43]))).set 37 (.inl (0, [0, 0, 0, 0, 0, 0]))).set 38 (.inl (0, [0, 0, 0, 0, 0, 0]))).set 39 (.inl (0, [0, 0, 0, 0, 0, 0]))).set 40 (.inl (0, [(-1), (-1), (-1), (-1), (-1), (-1)]))).set 41 (.inl (0, [0, 0, 0, 0, 0, 0]))).set 42 (.inl (0, [2, 2, 2, 2, 2]))).set 43 (.inl (0, [10, 10, 10, 10, 10, 10, 10, 10]))), 0, 0) _
  refine mEnds.steps 6 (q' := (47, [some (.ref 1), some (.int 1), some (.int 0)], [.int 0], (((((((((((((hC0.set 36 (.inr (1, [.int 0, .int 0, .int 0, .int 0, .int 0, .ref 37, .ref 38, .ref 39, .ref 40, .ref 41, .ref 42, .ref 43]))).set 36 (.inr (1, [.int 0, .int 0, .int 0, .int 0, .int 0, .ref 37, .ref 38, .ref 39, .ref 40, .ref 41, .ref 42, .ref 43]))).set 36 (.inr (1, [.int 0, .int 0, .int 0, .int 0, .int 0, .ref 37, .ref 38, .ref 39, .ref 40, .ref 41, .ref 42, .ref 43]))).set 36 (.inr (1, [.int 0, .int 0, .int 0, .int 0, .int 0, .ref 37, .ref 38, .ref 39, .ref 40, .ref 41, .ref 42, .ref 43]))).set 36 (.inr (1, [.int 0, .int 0, .int 0, .int 0, .int 0, .ref 37, .ref 38, .ref 39, .ref 40, .ref 41, .ref 42, .ref 43]))).set 37 (.inl (0, [0, 0, 0, 0, 0, 0]))).set 38 (.inl (0, [0, 0, 0, 0, 0, 0]))).set 39 (.inl (0, [0, 0, 0, 0, 0, 0]))).set 40 (.inl (0, [(-1), (-1), (-1), (-1), (-1), (-1)]))).set 41 (.inl (0, [0, 0, 0, 0, 0, 0]))).set 42 (.inl (0, [2, 2, 2, 2, 2]))).set 43 (.inl (0, [10, 10, 10, 10, 10, 10, 10, 10]))).set 11 (.inl (2, [0, 1]))), 0, 0)) rfl ?_
  exact mEnds.ret rfl
set_option maxRecDepth 100000 in
theorem m32_FFv1   : ∃ hs', mEnds [] 20 177 (mentry 177 [.ref 1, .int 1] hM0) (some (.int 0), hs', 0, 0) := by
  refine ⟨(hM0.set 10 (.inl (2, [0, 1]))), ?_⟩
  refine mEnds.steps 4 (q' := (4, [some (.ref 1), some (.int 1), none], [.long 1, .long 0, .long 1], hM0, 0, 0)) rfl ?_
  refine mEnds.call (d := 19) (y' := 111) (as := [.long 1, .long 0, .long 1]) (q' := (7, [some (.ref 1), some (.int 1), none], [], hM0, 0, 0)) (v := some (.int 1)) (hs' := hM0) (c' := 0) (s' := 0) rfl rfl ?_ ?_
  · refine mEnds.steps 10 (q' := (18, [some (.long 1), none, some (.long 0), none, some (.long 1), none], [.int 1], hM0, 0, 0)) rfl ?_
    exact mEnds.ret rfl
  show mEnds [] 20 177 (7, [some (.ref 1), some (.int 1), none], [.int 1], hM0, 0, 0) _
  refine mEnds.steps 8 (q' := (20, [some (.ref 1), some (.int 1), none], [.int 104, .int 0, .ref 1], hM0, 0, 0)) rfl ?_
  refine mEnds.call (d := 19) (y' := 152) (as := [.ref 1, .int 0, .int 104]) (q' := (23, [some (.ref 1), some (.int 1), none], [], hM0, 0, 0)) (v := none) (hs' := hM0) (c' := 0) (s' := 0) rfl rfl ?_ ?_
  · exact mEnds.deep cp_0_104 9
  show mEnds [] 20 177 (23, [some (.ref 1), some (.int 1), none], [], hM0, 0, 0) _
  refine mEnds.steps 13 (q' := (46, [some (.ref 1), some (.int 1), some (.int 0)], [.int 0], (hM0.set 10 (.inl (2, [0, 1]))), 0, 0)) rfl ?_
  exact mEnds.ret rfl
theorem ok_32 (x1 x2 x3 x4 x5 : Int32) : callOK_32 x1 x2 x3 x4 x5 := by
  cases f0 : decide (x1 < 0) with
  | true =>
    obtain ⟨h1, a1⟩ := c32_T x1 f0
    obtain ⟨h2, a2⟩ := m32_T x1 f0
    exact ⟨_, h1, h2, a1, a2⟩
  | false =>
    cases f1 : decide (1 < x1) with
    | true =>
      obtain ⟨h1, a1⟩ := c32_FT x1 f0 f1
      obtain ⟨h2, a2⟩ := m32_FT x1 f0 f1
      exact ⟨_, h1, h2, a1, a2⟩
    | false =>
      obtain ⟨k2, hk2, ek2⟩ := i32_rng (n := 2) f0 f1 (by decide)
      clear f0 f1
      match k2, hk2, ek2 with
      | 0, _, e =>
        obtain rfl := i32_at (c := 0) e (by decide)
        obtain ⟨h1, a1⟩ := c32_FFv0 
        obtain ⟨h2, a2⟩ := m32_FFv0 
        exact ⟨_, h1, h2, a1, a2⟩
      | 1, _, e =>
        obtain rfl := i32_at (c := 1) e (by decide)
        obtain ⟨h1, a1⟩ := c32_FFv1 
        obtain ⟨h2, a2⟩ := m32_FFv1 
        exact ⟨_, h1, h2, a1, a2⟩
      | k + 2, h, _ => exact absurd h (by omega)
