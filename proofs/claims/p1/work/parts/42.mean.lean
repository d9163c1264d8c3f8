/-! mean: the case tree -/
theorem cpM : mEnds [] 10 7 (mentry 7 [.ref 44, .ref 2] hC0) (none, hC0, 0, 0) := ⟨200, eqR_ok (by decide +kernel)⟩
set_option maxRecDepth 100000 in
theorem te0 (hs : mH) : mEnds [] 18 86 (mentry 86 [.int 0] hs) (some (.long 1), hs, 0, 0) := by
  refine mEnds.steps 8 (q' := (22, [some (.int 0), some (.long 1), none, some (.int 0)], [.long 1], hs, 0, 0)) rfl ?_
  exact mEnds.ret rfl
set_option maxRecDepth 100000 in
theorem of0_0 (hs : mH) : mEnds [] 18 87 (mentry 87 [.long 0, .long 1, .int 0] hs) (some (.long 0), hs, 0, 0) := by
  refine mEnds.steps 2 (q' := (2, [some (.long 0), none, some (.long 1), none, some (.int 0), none, none], [.long 1, .long 0], hs, 0, 0)) rfl ?_
  refine mEnds.call (d := 17) (y' := 88) (as := [.long 0, .long 1]) (q' := (5, [some (.long 0), none, some (.long 1), none, some (.int 0), none, none], [], hs, 0, 0)) (v := some (.long 1)) (hs' := hs) (c' := 0) (s' := 0) rfl rfl ?_ ?_
  · refine mEnds.steps 25 (q' := (14, [some (.long 1), none, some (.long 0), none, some (.int 1), some (.long 0), none], [.int 0], hs, 0, 0)) rfl ?_
    refine mEnds.steps 4 (q' := (38, [some (.long 1), none, some (.long 0), none, some (.int 1), some (.long 0), none], [.long 1], hs, 0, 0)) rfl ?_
    exact mEnds.ret rfl
  show mEnds [] 18 87 (5, [some (.long 0), none, some (.long 1), none, some (.int 0), none, none], [.long 1], hs, 0, 0) _
  refine mEnds.steps 7 (q' := (23, [some (.long 0), none, some (.long 1), none, some (.int 0), some (.long 1), none], [.long 0], hs, 0, 0)) rfl ?_
  exact mEnds.ret rfl
set_option maxRecDepth 100000 in
theorem lo0_0 (hs : mH) : mEnds [] 18 164 (mentry 164 [.long 0, .long 1, .int 0] hs) (some (.long 0), hs, 0, 0) := by
  refine mEnds.steps 25 (q' := (41, [some (.long 0), none, some (.long 1), none, some (.int 0), some (.long 1), none, some (.long 0), none, some (.long 0), none], [.long 0], hs, 0, 0)) rfl ?_
  refine mEnds.steps 2 (q' := (44, [some (.long 0), none, some (.long 1), none, some (.int 0), some (.long 1), none, some (.long 0), none, some (.long 0), none], [.long 0], hs, 0, 0)) rfl ?_
  exact mEnds.ret rfl
set_option maxRecDepth 100000 in
theorem bf0_0 (v : Int32) : mEnds [] 19 165 (mentry 165 [.ref 1, .int v, .int (-4), .int 0, .int 0, .int 0] hM0) (some (.long 0), hB 0, 0, 0) := by
  refine mEnds.steps 11 (q' := (32, [some (.ref 1), some (.int v), some (.int (-4)), some (.int 0), some (.int 0), some (.int 0), some (.long 0), none, some (.long 1), none, some (.int 0), none, none, none, none], [], hM0, 0, 0)) rfl ?_
  refine ball (N := 0) v 0 1 (by decide) (fun o11 o13 o14 => ?_)
  refine mEnds.steps 3 (q' := (186, [some (.ref 1), some (.int v), some (.int (-4)), some (.int (nI 0)), some (.int 0), some (.int 0), some (.long 0), none, some (.long 1), none, some (.int (nI (2 ^ 0))), o11, none, o13, o14], [.int 0, .long 1, .long 0], hB 0, 0, 0)) rfl ?_
  refine mEnds.call (d := 18) (y' := 164) (as := [.long 0, .long 1, .int 0]) (q' := (189, [some (.ref 1), some (.int v), some (.int (-4)), some (.int (nI 0)), some (.int 0), some (.int 0), some (.long 0), none, some (.long 1), none, some (.int (nI (2 ^ 0))), o11, none, o13, o14], [], hB 0, 0, 0)) (v := some (.long 0)) (hs' := hB 0) (c' := 0) (s' := 0) rfl rfl (lo0_0 _) ?_
  exact mEnds.ret rfl
set_option maxRecDepth 100000 in
theorem of0_1 (hs : mH) : mEnds [] 18 87 (mentry 87 [.long 0, .long 1, .int 1] hs) (some (.long 1), hs, 0, 0) := by
  refine mEnds.steps 2 (q' := (2, [some (.long 0), none, some (.long 1), none, some (.int 1), none, none], [.long 1, .long 0], hs, 0, 0)) rfl ?_
  refine mEnds.call (d := 17) (y' := 88) (as := [.long 0, .long 1]) (q' := (5, [some (.long 0), none, some (.long 1), none, some (.int 1), none, none], [], hs, 0, 0)) (v := some (.long 1)) (hs' := hs) (c' := 0) (s' := 0) rfl rfl ?_ ?_
  · refine mEnds.steps 25 (q' := (14, [some (.long 1), none, some (.long 0), none, some (.int 1), some (.long 0), none], [.int 0], hs, 0, 0)) rfl ?_
    refine mEnds.steps 4 (q' := (38, [some (.long 1), none, some (.long 0), none, some (.int 1), some (.long 0), none], [.long 1], hs, 0, 0)) rfl ?_
    exact mEnds.ret rfl
  show mEnds [] 18 87 (5, [some (.long 0), none, some (.long 1), none, some (.int 1), none, none], [.long 1], hs, 0, 0) _
  refine mEnds.steps 6 (q' := (23, [some (.long 0), none, some (.long 1), none, some (.int 1), some (.long 1), none], [.long 1], hs, 0, 0)) rfl ?_
  exact mEnds.ret rfl
set_option maxRecDepth 100000 in
theorem lo0_1 (hs : mH) : mEnds [] 18 164 (mentry 164 [.long 0, .long 1, .int 1] hs) (some (.long 1), hs, 0, 0) := by
  refine mEnds.steps 25 (q' := (43, [some (.long 0), none, some (.long 1), none, some (.int 1), some (.long 1), none, some (.long 0), none, some (.long 0), none], [.long 1, .long 1], hs, 0, 0)) rfl ?_
  refine mEnds.steps 1 (q' := (44, [some (.long 0), none, some (.long 1), none, some (.int 1), some (.long 1), none, some (.long 0), none, some (.long 0), none], [.long 1], hs, 0, 0)) rfl ?_
  exact mEnds.ret rfl
set_option maxRecDepth 100000 in
theorem bf0_1 (v : Int32) : mEnds [] 19 165 (mentry 165 [.ref 1, .int v, .int (-4), .int 0, .int 0, .int 1] hM0) (some (.long 1), hB 0, 0, 0) := by
  refine mEnds.steps 11 (q' := (32, [some (.ref 1), some (.int v), some (.int (-4)), some (.int 0), some (.int 0), some (.int 1), some (.long 0), none, some (.long 1), none, some (.int 0), none, none, none, none], [], hM0, 0, 0)) rfl ?_
  refine ball (N := 0) v 1 1 (by decide) (fun o11 o13 o14 => ?_)
  refine mEnds.steps 3 (q' := (186, [some (.ref 1), some (.int v), some (.int (-4)), some (.int (nI 0)), some (.int 0), some (.int 1), some (.long 0), none, some (.long 1), none, some (.int (nI (2 ^ 0))), o11, none, o13, o14], [.int 1, .long 1, .long 0], hB 0, 0, 0)) rfl ?_
  refine mEnds.call (d := 18) (y' := 164) (as := [.long 0, .long 1, .int 1]) (q' := (189, [some (.ref 1), some (.int v), some (.int (-4)), some (.int (nI 0)), some (.int 0), some (.int 1), some (.long 0), none, some (.long 1), none, some (.int (nI (2 ^ 0))), o11, none, o13, o14], [], hB 0, 0, 0)) (v := some (.long 1)) (hs' := hB 0) (c' := 0) (s' := 0) rfl rfl (lo0_1 _) ?_
  exact mEnds.ret rfl
set_option maxRecDepth 100000 in
theorem te1 (hs : mH) : mEnds [] 18 86 (mentry 86 [.int 1] hs) (some (.long 10), hs, 0, 0) := by
  refine mEnds.steps 17 (q' := (22, [some (.int 1), some (.long 10), none, some (.int 1)], [.long 10], hs, 0, 0)) rfl ?_
  exact mEnds.ret rfl
set_option maxRecDepth 100000 in
theorem of1_0 (hs : mH) : mEnds [] 18 87 (mentry 87 [.long 0, .long 10, .int 0] hs) (some (.long 0), hs, 0, 0) := by
  refine mEnds.steps 2 (q' := (2, [some (.long 0), none, some (.long 10), none, some (.int 0), none, none], [.long 10, .long 0], hs, 0, 0)) rfl ?_
  refine mEnds.call (d := 17) (y' := 88) (as := [.long 0, .long 10]) (q' := (5, [some (.long 0), none, some (.long 10), none, some (.int 0), none, none], [], hs, 0, 0)) (v := some (.long 10)) (hs' := hs) (c' := 0) (s' := 0) rfl rfl ?_ ?_
  · refine mEnds.steps 25 (q' := (14, [some (.long 10), none, some (.long 0), none, some (.int 1), some (.long 0), none], [.int 0], hs, 0, 0)) rfl ?_
    refine mEnds.steps 4 (q' := (38, [some (.long 10), none, some (.long 0), none, some (.int 1), some (.long 0), none], [.long 10], hs, 0, 0)) rfl ?_
    exact mEnds.ret rfl
  show mEnds [] 18 87 (5, [some (.long 0), none, some (.long 10), none, some (.int 0), none, none], [.long 10], hs, 0, 0) _
  refine mEnds.steps 7 (q' := (23, [some (.long 0), none, some (.long 10), none, some (.int 0), some (.long 10), none], [.long 0], hs, 0, 0)) rfl ?_
  exact mEnds.ret rfl
set_option maxRecDepth 100000 in
theorem lo1_0 (hs : mH) : mEnds [] 18 164 (mentry 164 [.long 0, .long 10, .int 0] hs) (some (.long 0), hs, 0, 0) := by
  refine mEnds.steps 25 (q' := (41, [some (.long 0), none, some (.long 10), none, some (.int 0), some (.long 10), none, some (.long 0), none, some (.long 0), none], [.long 0], hs, 0, 0)) rfl ?_
  refine mEnds.steps 2 (q' := (44, [some (.long 0), none, some (.long 10), none, some (.int 0), some (.long 10), none, some (.long 0), none, some (.long 0), none], [.long 0], hs, 0, 0)) rfl ?_
  exact mEnds.ret rfl
set_option maxRecDepth 100000 in
theorem bf1_0 (v : Int32) : mEnds [] 19 165 (mentry 165 [.ref 1, .int v, .int (-4), .int 1, .int 0, .int 0] hM0) (some (.long 0), hB 1, 0, 0) := by
  refine mEnds.steps 20 (q' := (32, [some (.ref 1), some (.int v), some (.int (-4)), some (.int 1), some (.int 0), some (.int 0), some (.long 0), none, some (.long 10), none, some (.int 0), none, none, none, none], [], hM0, 0, 0)) rfl ?_
  refine ball (N := 1) v 0 10 (by decide) (fun o11 o13 o14 => ?_)
  refine mEnds.steps 3 (q' := (186, [some (.ref 1), some (.int v), some (.int (-4)), some (.int (nI 1)), some (.int 0), some (.int 0), some (.long 0), none, some (.long 10), none, some (.int (nI (2 ^ 1))), o11, none, o13, o14], [.int 0, .long 10, .long 0], hB 1, 0, 0)) rfl ?_
  refine mEnds.call (d := 18) (y' := 164) (as := [.long 0, .long 10, .int 0]) (q' := (189, [some (.ref 1), some (.int v), some (.int (-4)), some (.int (nI 1)), some (.int 0), some (.int 0), some (.long 0), none, some (.long 10), none, some (.int (nI (2 ^ 1))), o11, none, o13, o14], [], hB 1, 0, 0)) (v := some (.long 0)) (hs' := hB 1) (c' := 0) (s' := 0) rfl rfl (lo1_0 _) ?_
  exact mEnds.ret rfl
set_option maxRecDepth 100000 in
theorem of1_1 (hs : mH) : mEnds [] 18 87 (mentry 87 [.long 0, .long 10, .int 1] hs) (some (.long 1), hs, 0, 0) := by
  refine mEnds.steps 2 (q' := (2, [some (.long 0), none, some (.long 10), none, some (.int 1), none, none], [.long 10, .long 0], hs, 0, 0)) rfl ?_
  refine mEnds.call (d := 17) (y' := 88) (as := [.long 0, .long 10]) (q' := (5, [some (.long 0), none, some (.long 10), none, some (.int 1), none, none], [], hs, 0, 0)) (v := some (.long 10)) (hs' := hs) (c' := 0) (s' := 0) rfl rfl ?_ ?_
  · refine mEnds.steps 25 (q' := (14, [some (.long 10), none, some (.long 0), none, some (.int 1), some (.long 0), none], [.int 0], hs, 0, 0)) rfl ?_
    refine mEnds.steps 4 (q' := (38, [some (.long 10), none, some (.long 0), none, some (.int 1), some (.long 0), none], [.long 10], hs, 0, 0)) rfl ?_
    exact mEnds.ret rfl
  show mEnds [] 18 87 (5, [some (.long 0), none, some (.long 10), none, some (.int 1), none, none], [.long 10], hs, 0, 0) _
  refine mEnds.steps 6 (q' := (23, [some (.long 0), none, some (.long 10), none, some (.int 1), some (.long 10), none], [.long 1], hs, 0, 0)) rfl ?_
  exact mEnds.ret rfl
set_option maxRecDepth 100000 in
theorem lo1_1 (hs : mH) : mEnds [] 18 164 (mentry 164 [.long 0, .long 10, .int 1] hs) (some (.long 1), hs, 0, 0) := by
  refine mEnds.steps 25 (q' := (43, [some (.long 0), none, some (.long 10), none, some (.int 1), some (.long 10), none, some (.long 0), none, some (.long 0), none], [.long 10, .long 10], hs, 0, 0)) rfl ?_
  refine mEnds.steps 1 (q' := (44, [some (.long 0), none, some (.long 10), none, some (.int 1), some (.long 10), none, some (.long 0), none, some (.long 0), none], [.long 1], hs, 0, 0)) rfl ?_
  exact mEnds.ret rfl
set_option maxRecDepth 100000 in
theorem bf1_1 (v : Int32) : mEnds [] 19 165 (mentry 165 [.ref 1, .int v, .int (-4), .int 1, .int 0, .int 1] hM0) (some (.long 1), hB 1, 0, 0) := by
  refine mEnds.steps 20 (q' := (32, [some (.ref 1), some (.int v), some (.int (-4)), some (.int 1), some (.int 0), some (.int 1), some (.long 0), none, some (.long 10), none, some (.int 0), none, none, none, none], [], hM0, 0, 0)) rfl ?_
  refine ball (N := 1) v 1 10 (by decide) (fun o11 o13 o14 => ?_)
  refine mEnds.steps 3 (q' := (186, [some (.ref 1), some (.int v), some (.int (-4)), some (.int (nI 1)), some (.int 0), some (.int 1), some (.long 0), none, some (.long 10), none, some (.int (nI (2 ^ 1))), o11, none, o13, o14], [.int 1, .long 10, .long 0], hB 1, 0, 0)) rfl ?_
  refine mEnds.call (d := 18) (y' := 164) (as := [.long 0, .long 10, .int 1]) (q' := (189, [some (.ref 1), some (.int v), some (.int (-4)), some (.int (nI 1)), some (.int 0), some (.int 1), some (.long 0), none, some (.long 10), none, some (.int (nI (2 ^ 1))), o11, none, o13, o14], [], hB 1, 0, 0)) (v := some (.long 1)) (hs' := hB 1) (c' := 0) (s' := 0) rfl rfl (lo1_1 _) ?_
  exact mEnds.ret rfl
set_option maxRecDepth 100000 in
theorem te2 (hs : mH) : mEnds [] 18 86 (mentry 86 [.int 2] hs) (some (.long 100), hs, 0, 0) := by
  refine mEnds.steps 25 (q' := (21, [some (.int 2), some (.long 100), none, some (.int 2)], [], hs, 0, 0)) rfl ?_
  refine mEnds.steps 1 (q' := (22, [some (.int 2), some (.long 100), none, some (.int 2)], [.long 100], hs, 0, 0)) rfl ?_
  exact mEnds.ret rfl
set_option maxRecDepth 100000 in
theorem of2_0 (hs : mH) : mEnds [] 18 87 (mentry 87 [.long 0, .long 100, .int 0] hs) (some (.long 0), hs, 0, 0) := by
  refine mEnds.steps 2 (q' := (2, [some (.long 0), none, some (.long 100), none, some (.int 0), none, none], [.long 100, .long 0], hs, 0, 0)) rfl ?_
  refine mEnds.call (d := 17) (y' := 88) (as := [.long 0, .long 100]) (q' := (5, [some (.long 0), none, some (.long 100), none, some (.int 0), none, none], [], hs, 0, 0)) (v := some (.long 100)) (hs' := hs) (c' := 0) (s' := 0) rfl rfl ?_ ?_
  · refine mEnds.steps 25 (q' := (14, [some (.long 100), none, some (.long 0), none, some (.int 1), some (.long 0), none], [.int 0], hs, 0, 0)) rfl ?_
    refine mEnds.steps 4 (q' := (38, [some (.long 100), none, some (.long 0), none, some (.int 1), some (.long 0), none], [.long 100], hs, 0, 0)) rfl ?_
    exact mEnds.ret rfl
  show mEnds [] 18 87 (5, [some (.long 0), none, some (.long 100), none, some (.int 0), none, none], [.long 100], hs, 0, 0) _
  refine mEnds.steps 7 (q' := (23, [some (.long 0), none, some (.long 100), none, some (.int 0), some (.long 100), none], [.long 0], hs, 0, 0)) rfl ?_
  exact mEnds.ret rfl
set_option maxRecDepth 100000 in
theorem lo2_0 (hs : mH) : mEnds [] 18 164 (mentry 164 [.long 0, .long 100, .int 0] hs) (some (.long 0), hs, 0, 0) := by
  refine mEnds.steps 25 (q' := (41, [some (.long 0), none, some (.long 100), none, some (.int 0), some (.long 100), none, some (.long 0), none, some (.long 0), none], [.long 0], hs, 0, 0)) rfl ?_
  refine mEnds.steps 2 (q' := (44, [some (.long 0), none, some (.long 100), none, some (.int 0), some (.long 100), none, some (.long 0), none, some (.long 0), none], [.long 0], hs, 0, 0)) rfl ?_
  exact mEnds.ret rfl
set_option maxRecDepth 100000 in
theorem bf2_0 (v : Int32) : mEnds [] 19 165 (mentry 165 [.ref 1, .int v, .int (-4), .int 2, .int 0, .int 0] hM0) (some (.long 0), hB 2, 0, 0) := by
  refine mEnds.steps 25 (q' := (11, [some (.ref 1), some (.int v), some (.int (-4)), some (.int 2), some (.int 0), some (.int 0), some (.long 0), none, some (.long 100), none, some (.int 2), none, none, none, none], [.int 2], hM0, 0, 0)) rfl ?_
  refine mEnds.steps 4 (q' := (32, [some (.ref 1), some (.int v), some (.int (-4)), some (.int 2), some (.int 0), some (.int 0), some (.long 0), none, some (.long 100), none, some (.int 0), none, none, none, none], [], hM0, 0, 0)) rfl ?_
  refine ball (N := 2) v 0 100 (by decide) (fun o11 o13 o14 => ?_)
  refine mEnds.steps 3 (q' := (186, [some (.ref 1), some (.int v), some (.int (-4)), some (.int (nI 2)), some (.int 0), some (.int 0), some (.long 0), none, some (.long 100), none, some (.int (nI (2 ^ 2))), o11, none, o13, o14], [.int 0, .long 100, .long 0], hB 2, 0, 0)) rfl ?_
  refine mEnds.call (d := 18) (y' := 164) (as := [.long 0, .long 100, .int 0]) (q' := (189, [some (.ref 1), some (.int v), some (.int (-4)), some (.int (nI 2)), some (.int 0), some (.int 0), some (.long 0), none, some (.long 100), none, some (.int (nI (2 ^ 2))), o11, none, o13, o14], [], hB 2, 0, 0)) (v := some (.long 0)) (hs' := hB 2) (c' := 0) (s' := 0) rfl rfl (lo2_0 _) ?_
  exact mEnds.ret rfl
set_option maxRecDepth 100000 in
theorem of2_1 (hs : mH) : mEnds [] 18 87 (mentry 87 [.long 0, .long 100, .int 1] hs) (some (.long 1), hs, 0, 0) := by
  refine mEnds.steps 2 (q' := (2, [some (.long 0), none, some (.long 100), none, some (.int 1), none, none], [.long 100, .long 0], hs, 0, 0)) rfl ?_
  refine mEnds.call (d := 17) (y' := 88) (as := [.long 0, .long 100]) (q' := (5, [some (.long 0), none, some (.long 100), none, some (.int 1), none, none], [], hs, 0, 0)) (v := some (.long 100)) (hs' := hs) (c' := 0) (s' := 0) rfl rfl ?_ ?_
  · refine mEnds.steps 25 (q' := (14, [some (.long 100), none, some (.long 0), none, some (.int 1), some (.long 0), none], [.int 0], hs, 0, 0)) rfl ?_
    refine mEnds.steps 4 (q' := (38, [some (.long 100), none, some (.long 0), none, some (.int 1), some (.long 0), none], [.long 100], hs, 0, 0)) rfl ?_
    exact mEnds.ret rfl
  show mEnds [] 18 87 (5, [some (.long 0), none, some (.long 100), none, some (.int 1), none, none], [.long 100], hs, 0, 0) _
  refine mEnds.steps 6 (q' := (23, [some (.long 0), none, some (.long 100), none, some (.int 1), some (.long 100), none], [.long 1], hs, 0, 0)) rfl ?_
  exact mEnds.ret rfl
set_option maxRecDepth 100000 in
theorem lo2_1 (hs : mH) : mEnds [] 18 164 (mentry 164 [.long 0, .long 100, .int 1] hs) (some (.long 1), hs, 0, 0) := by
  refine mEnds.steps 25 (q' := (43, [some (.long 0), none, some (.long 100), none, some (.int 1), some (.long 100), none, some (.long 0), none, some (.long 0), none], [.long 100, .long 100], hs, 0, 0)) rfl ?_
  refine mEnds.steps 1 (q' := (44, [some (.long 0), none, some (.long 100), none, some (.int 1), some (.long 100), none, some (.long 0), none, some (.long 0), none], [.long 1], hs, 0, 0)) rfl ?_
  exact mEnds.ret rfl
set_option maxRecDepth 100000 in
theorem bf2_1 (v : Int32) : mEnds [] 19 165 (mentry 165 [.ref 1, .int v, .int (-4), .int 2, .int 0, .int 1] hM0) (some (.long 1), hB 2, 0, 0) := by
  refine mEnds.steps 25 (q' := (11, [some (.ref 1), some (.int v), some (.int (-4)), some (.int 2), some (.int 0), some (.int 1), some (.long 0), none, some (.long 100), none, some (.int 2), none, none, none, none], [.int 2], hM0, 0, 0)) rfl ?_
  refine mEnds.steps 4 (q' := (32, [some (.ref 1), some (.int v), some (.int (-4)), some (.int 2), some (.int 0), some (.int 1), some (.long 0), none, some (.long 100), none, some (.int 0), none, none, none, none], [], hM0, 0, 0)) rfl ?_
  refine ball (N := 2) v 1 100 (by decide) (fun o11 o13 o14 => ?_)
  refine mEnds.steps 3 (q' := (186, [some (.ref 1), some (.int v), some (.int (-4)), some (.int (nI 2)), some (.int 0), some (.int 1), some (.long 0), none, some (.long 100), none, some (.int (nI (2 ^ 2))), o11, none, o13, o14], [.int 1, .long 100, .long 0], hB 2, 0, 0)) rfl ?_
  refine mEnds.call (d := 18) (y' := 164) (as := [.long 0, .long 100, .int 1]) (q' := (189, [some (.ref 1), some (.int v), some (.int (-4)), some (.int (nI 2)), some (.int 0), some (.int 1), some (.long 0), none, some (.long 100), none, some (.int (nI (2 ^ 2))), o11, none, o13, o14], [], hB 2, 0, 0)) (v := some (.long 1)) (hs' := hB 2) (c' := 0) (s' := 0) rfl rfl (lo2_1 _) ?_
  exact mEnds.ret rfl
set_option maxRecDepth 100000 in
theorem te3 (hs : mH) : mEnds [] 18 86 (mentry 86 [.int 3] hs) (some (.long 1000), hs, 0, 0) := by
  refine mEnds.steps 25 (q' := (9, [some (.int 3), some (.long 100), none, some (.int 2)], [], hs, 0, 0)) rfl ?_
  refine mEnds.steps 10 (q' := (22, [some (.int 3), some (.long 1000), none, some (.int 3)], [.long 1000], hs, 0, 0)) rfl ?_
  exact mEnds.ret rfl
set_option maxRecDepth 100000 in
theorem of3_0 (hs : mH) : mEnds [] 18 87 (mentry 87 [.long 0, .long 1000, .int 0] hs) (some (.long 0), hs, 0, 0) := by
  refine mEnds.steps 2 (q' := (2, [some (.long 0), none, some (.long 1000), none, some (.int 0), none, none], [.long 1000, .long 0], hs, 0, 0)) rfl ?_
  refine mEnds.call (d := 17) (y' := 88) (as := [.long 0, .long 1000]) (q' := (5, [some (.long 0), none, some (.long 1000), none, some (.int 0), none, none], [], hs, 0, 0)) (v := some (.long 1000)) (hs' := hs) (c' := 0) (s' := 0) rfl rfl ?_ ?_
  · refine mEnds.steps 25 (q' := (14, [some (.long 1000), none, some (.long 0), none, some (.int 1), some (.long 0), none], [.int 0], hs, 0, 0)) rfl ?_
    refine mEnds.steps 4 (q' := (38, [some (.long 1000), none, some (.long 0), none, some (.int 1), some (.long 0), none], [.long 1000], hs, 0, 0)) rfl ?_
    exact mEnds.ret rfl
  show mEnds [] 18 87 (5, [some (.long 0), none, some (.long 1000), none, some (.int 0), none, none], [.long 1000], hs, 0, 0) _
  refine mEnds.steps 7 (q' := (23, [some (.long 0), none, some (.long 1000), none, some (.int 0), some (.long 1000), none], [.long 0], hs, 0, 0)) rfl ?_
  exact mEnds.ret rfl
set_option maxRecDepth 100000 in
theorem lo3_0 (hs : mH) : mEnds [] 18 164 (mentry 164 [.long 0, .long 1000, .int 0] hs) (some (.long 0), hs, 0, 0) := by
  refine mEnds.steps 25 (q' := (41, [some (.long 0), none, some (.long 1000), none, some (.int 0), some (.long 1000), none, some (.long 0), none, some (.long 0), none], [.long 0], hs, 0, 0)) rfl ?_
  refine mEnds.steps 2 (q' := (44, [some (.long 0), none, some (.long 1000), none, some (.int 0), some (.long 1000), none, some (.long 0), none, some (.long 0), none], [.long 0], hs, 0, 0)) rfl ?_
  exact mEnds.ret rfl
set_option maxRecDepth 100000 in
theorem bf3_0 (v : Int32) : mEnds [] 19 165 (mentry 165 [.ref 1, .int v, .int (-4), .int 3, .int 0, .int 0] hM0) (some (.long 0), hB 3, 0, 0) := by
  refine mEnds.steps 25 (q' := (11, [some (.ref 1), some (.int v), some (.int (-4)), some (.int 3), some (.int 0), some (.int 0), some (.long 0), none, some (.long 100), none, some (.int 2), none, none, none, none], [.int 2], hM0, 0, 0)) rfl ?_
  refine mEnds.steps 13 (q' := (32, [some (.ref 1), some (.int v), some (.int (-4)), some (.int 3), some (.int 0), some (.int 0), some (.long 0), none, some (.long 1000), none, some (.int 0), none, none, none, none], [], hM0, 0, 0)) rfl ?_
  refine ball (N := 3) v 0 1000 (by decide) (fun o11 o13 o14 => ?_)
  refine mEnds.steps 3 (q' := (186, [some (.ref 1), some (.int v), some (.int (-4)), some (.int (nI 3)), some (.int 0), some (.int 0), some (.long 0), none, some (.long 1000), none, some (.int (nI (2 ^ 3))), o11, none, o13, o14], [.int 0, .long 1000, .long 0], hB 3, 0, 0)) rfl ?_
  refine mEnds.call (d := 18) (y' := 164) (as := [.long 0, .long 1000, .int 0]) (q' := (189, [some (.ref 1), some (.int v), some (.int (-4)), some (.int (nI 3)), some (.int 0), some (.int 0), some (.long 0), none, some (.long 1000), none, some (.int (nI (2 ^ 3))), o11, none, o13, o14], [], hB 3, 0, 0)) (v := some (.long 0)) (hs' := hB 3) (c' := 0) (s' := 0) rfl rfl (lo3_0 _) ?_
  exact mEnds.ret rfl
set_option maxRecDepth 100000 in
theorem of3_1 (hs : mH) : mEnds [] 18 87 (mentry 87 [.long 0, .long 1000, .int 1] hs) (some (.long 1), hs, 0, 0) := by
  refine mEnds.steps 2 (q' := (2, [some (.long 0), none, some (.long 1000), none, some (.int 1), none, none], [.long 1000, .long 0], hs, 0, 0)) rfl ?_
  refine mEnds.call (d := 17) (y' := 88) (as := [.long 0, .long 1000]) (q' := (5, [some (.long 0), none, some (.long 1000), none, some (.int 1), none, none], [], hs, 0, 0)) (v := some (.long 1000)) (hs' := hs) (c' := 0) (s' := 0) rfl rfl ?_ ?_
  · refine mEnds.steps 25 (q' := (14, [some (.long 1000), none, some (.long 0), none, some (.int 1), some (.long 0), none], [.int 0], hs, 0, 0)) rfl ?_
    refine mEnds.steps 4 (q' := (38, [some (.long 1000), none, some (.long 0), none, some (.int 1), some (.long 0), none], [.long 1000], hs, 0, 0)) rfl ?_
    exact mEnds.ret rfl
  show mEnds [] 18 87 (5, [some (.long 0), none, some (.long 1000), none, some (.int 1), none, none], [.long 1000], hs, 0, 0) _
  refine mEnds.steps 6 (q' := (23, [some (.long 0), none, some (.long 1000), none, some (.int 1), some (.long 1000), none], [.long 1], hs, 0, 0)) rfl ?_
  exact mEnds.ret rfl
set_option maxRecDepth 100000 in
theorem lo3_1 (hs : mH) : mEnds [] 18 164 (mentry 164 [.long 0, .long 1000, .int 1] hs) (some (.long 1), hs, 0, 0) := by
  refine mEnds.steps 25 (q' := (43, [some (.long 0), none, some (.long 1000), none, some (.int 1), some (.long 1000), none, some (.long 0), none, some (.long 0), none], [.long 1000, .long 1000], hs, 0, 0)) rfl ?_
  refine mEnds.steps 1 (q' := (44, [some (.long 0), none, some (.long 1000), none, some (.int 1), some (.long 1000), none, some (.long 0), none, some (.long 0), none], [.long 1], hs, 0, 0)) rfl ?_
  exact mEnds.ret rfl
set_option maxRecDepth 100000 in
theorem bf3_1 (v : Int32) : mEnds [] 19 165 (mentry 165 [.ref 1, .int v, .int (-4), .int 3, .int 0, .int 1] hM0) (some (.long 1), hB 3, 0, 0) := by
  refine mEnds.steps 25 (q' := (11, [some (.ref 1), some (.int v), some (.int (-4)), some (.int 3), some (.int 0), some (.int 1), some (.long 0), none, some (.long 100), none, some (.int 2), none, none, none, none], [.int 2], hM0, 0, 0)) rfl ?_
  refine mEnds.steps 13 (q' := (32, [some (.ref 1), some (.int v), some (.int (-4)), some (.int 3), some (.int 0), some (.int 1), some (.long 0), none, some (.long 1000), none, some (.int 0), none, none, none, none], [], hM0, 0, 0)) rfl ?_
  refine ball (N := 3) v 1 1000 (by decide) (fun o11 o13 o14 => ?_)
  refine mEnds.steps 3 (q' := (186, [some (.ref 1), some (.int v), some (.int (-4)), some (.int (nI 3)), some (.int 0), some (.int 1), some (.long 0), none, some (.long 1000), none, some (.int (nI (2 ^ 3))), o11, none, o13, o14], [.int 1, .long 1000, .long 0], hB 3, 0, 0)) rfl ?_
  refine mEnds.call (d := 18) (y' := 164) (as := [.long 0, .long 1000, .int 1]) (q' := (189, [some (.ref 1), some (.int v), some (.int (-4)), some (.int (nI 3)), some (.int 0), some (.int 1), some (.long 0), none, some (.long 1000), none, some (.int (nI (2 ^ 3))), o11, none, o13, o14], [], hB 3, 0, 0)) (v := some (.long 1)) (hs' := hB 3) (c' := 0) (s' := 0) rfl rfl (lo3_1 _) ?_
  exact mEnds.ret rfl
set_option maxRecDepth 100000 in
theorem te4 (hs : mH) : mEnds [] 18 86 (mentry 86 [.int 4] hs) (some (.long 10000), hs, 0, 0) := by
  refine mEnds.steps 25 (q' := (9, [some (.int 4), some (.long 100), none, some (.int 2)], [], hs, 0, 0)) rfl ?_
  refine mEnds.steps 19 (q' := (22, [some (.int 4), some (.long 10000), none, some (.int 4)], [.long 10000], hs, 0, 0)) rfl ?_
  exact mEnds.ret rfl
set_option maxRecDepth 100000 in
theorem of4_0 (hs : mH) : mEnds [] 18 87 (mentry 87 [.long 0, .long 10000, .int 0] hs) (some (.long 0), hs, 0, 0) := by
  refine mEnds.steps 2 (q' := (2, [some (.long 0), none, some (.long 10000), none, some (.int 0), none, none], [.long 10000, .long 0], hs, 0, 0)) rfl ?_
  refine mEnds.call (d := 17) (y' := 88) (as := [.long 0, .long 10000]) (q' := (5, [some (.long 0), none, some (.long 10000), none, some (.int 0), none, none], [], hs, 0, 0)) (v := some (.long 10000)) (hs' := hs) (c' := 0) (s' := 0) rfl rfl ?_ ?_
  · refine mEnds.steps 25 (q' := (14, [some (.long 10000), none, some (.long 0), none, some (.int 1), some (.long 0), none], [.int 0], hs, 0, 0)) rfl ?_
    refine mEnds.steps 4 (q' := (38, [some (.long 10000), none, some (.long 0), none, some (.int 1), some (.long 0), none], [.long 10000], hs, 0, 0)) rfl ?_
    exact mEnds.ret rfl
  show mEnds [] 18 87 (5, [some (.long 0), none, some (.long 10000), none, some (.int 0), none, none], [.long 10000], hs, 0, 0) _
  refine mEnds.steps 7 (q' := (23, [some (.long 0), none, some (.long 10000), none, some (.int 0), some (.long 10000), none], [.long 0], hs, 0, 0)) rfl ?_
  exact mEnds.ret rfl
set_option maxRecDepth 100000 in
theorem lo4_0 (hs : mH) : mEnds [] 18 164 (mentry 164 [.long 0, .long 10000, .int 0] hs) (some (.long 0), hs, 0, 0) := by
  refine mEnds.steps 25 (q' := (41, [some (.long 0), none, some (.long 10000), none, some (.int 0), some (.long 10000), none, some (.long 0), none, some (.long 0), none], [.long 0], hs, 0, 0)) rfl ?_
  refine mEnds.steps 2 (q' := (44, [some (.long 0), none, some (.long 10000), none, some (.int 0), some (.long 10000), none, some (.long 0), none, some (.long 0), none], [.long 0], hs, 0, 0)) rfl ?_
  exact mEnds.ret rfl
set_option maxRecDepth 100000 in
theorem bf4_0 (v : Int32) : mEnds [] 19 165 (mentry 165 [.ref 1, .int v, .int (-4), .int 4, .int 0, .int 0] hM0) (some (.long 0), hB 4, 0, 0) := by
  refine mEnds.steps 25 (q' := (11, [some (.ref 1), some (.int v), some (.int (-4)), some (.int 4), some (.int 0), some (.int 0), some (.long 0), none, some (.long 100), none, some (.int 2), none, none, none, none], [.int 2], hM0, 0, 0)) rfl ?_
  refine mEnds.steps 22 (q' := (32, [some (.ref 1), some (.int v), some (.int (-4)), some (.int 4), some (.int 0), some (.int 0), some (.long 0), none, some (.long 10000), none, some (.int 0), none, none, none, none], [], hM0, 0, 0)) rfl ?_
  refine ball (N := 4) v 0 10000 (by decide) (fun o11 o13 o14 => ?_)
  refine mEnds.steps 3 (q' := (186, [some (.ref 1), some (.int v), some (.int (-4)), some (.int (nI 4)), some (.int 0), some (.int 0), some (.long 0), none, some (.long 10000), none, some (.int (nI (2 ^ 4))), o11, none, o13, o14], [.int 0, .long 10000, .long 0], hB 4, 0, 0)) rfl ?_
  refine mEnds.call (d := 18) (y' := 164) (as := [.long 0, .long 10000, .int 0]) (q' := (189, [some (.ref 1), some (.int v), some (.int (-4)), some (.int (nI 4)), some (.int 0), some (.int 0), some (.long 0), none, some (.long 10000), none, some (.int (nI (2 ^ 4))), o11, none, o13, o14], [], hB 4, 0, 0)) (v := some (.long 0)) (hs' := hB 4) (c' := 0) (s' := 0) rfl rfl (lo4_0 _) ?_
  exact mEnds.ret rfl
set_option maxRecDepth 100000 in
theorem of4_1 (hs : mH) : mEnds [] 18 87 (mentry 87 [.long 0, .long 10000, .int 1] hs) (some (.long 1), hs, 0, 0) := by
  refine mEnds.steps 2 (q' := (2, [some (.long 0), none, some (.long 10000), none, some (.int 1), none, none], [.long 10000, .long 0], hs, 0, 0)) rfl ?_
  refine mEnds.call (d := 17) (y' := 88) (as := [.long 0, .long 10000]) (q' := (5, [some (.long 0), none, some (.long 10000), none, some (.int 1), none, none], [], hs, 0, 0)) (v := some (.long 10000)) (hs' := hs) (c' := 0) (s' := 0) rfl rfl ?_ ?_
  · refine mEnds.steps 25 (q' := (14, [some (.long 10000), none, some (.long 0), none, some (.int 1), some (.long 0), none], [.int 0], hs, 0, 0)) rfl ?_
    refine mEnds.steps 4 (q' := (38, [some (.long 10000), none, some (.long 0), none, some (.int 1), some (.long 0), none], [.long 10000], hs, 0, 0)) rfl ?_
    exact mEnds.ret rfl
  show mEnds [] 18 87 (5, [some (.long 0), none, some (.long 10000), none, some (.int 1), none, none], [.long 10000], hs, 0, 0) _
  refine mEnds.steps 6 (q' := (23, [some (.long 0), none, some (.long 10000), none, some (.int 1), some (.long 10000), none], [.long 1], hs, 0, 0)) rfl ?_
  exact mEnds.ret rfl
set_option maxRecDepth 100000 in
theorem lo4_1 (hs : mH) : mEnds [] 18 164 (mentry 164 [.long 0, .long 10000, .int 1] hs) (some (.long 1), hs, 0, 0) := by
  refine mEnds.steps 25 (q' := (43, [some (.long 0), none, some (.long 10000), none, some (.int 1), some (.long 10000), none, some (.long 0), none, some (.long 0), none], [.long 10000, .long 10000], hs, 0, 0)) rfl ?_
  refine mEnds.steps 1 (q' := (44, [some (.long 0), none, some (.long 10000), none, some (.int 1), some (.long 10000), none, some (.long 0), none, some (.long 0), none], [.long 1], hs, 0, 0)) rfl ?_
  exact mEnds.ret rfl
set_option maxRecDepth 100000 in
theorem bf4_1 (v : Int32) : mEnds [] 19 165 (mentry 165 [.ref 1, .int v, .int (-4), .int 4, .int 0, .int 1] hM0) (some (.long 1), hB 4, 0, 0) := by
  refine mEnds.steps 25 (q' := (11, [some (.ref 1), some (.int v), some (.int (-4)), some (.int 4), some (.int 0), some (.int 1), some (.long 0), none, some (.long 100), none, some (.int 2), none, none, none, none], [.int 2], hM0, 0, 0)) rfl ?_
  refine mEnds.steps 22 (q' := (32, [some (.ref 1), some (.int v), some (.int (-4)), some (.int 4), some (.int 0), some (.int 1), some (.long 0), none, some (.long 10000), none, some (.int 0), none, none, none, none], [], hM0, 0, 0)) rfl ?_
  refine ball (N := 4) v 1 10000 (by decide) (fun o11 o13 o14 => ?_)
  refine mEnds.steps 3 (q' := (186, [some (.ref 1), some (.int v), some (.int (-4)), some (.int (nI 4)), some (.int 0), some (.int 1), some (.long 0), none, some (.long 10000), none, some (.int (nI (2 ^ 4))), o11, none, o13, o14], [.int 1, .long 10000, .long 0], hB 4, 0, 0)) rfl ?_
  refine mEnds.call (d := 18) (y' := 164) (as := [.long 0, .long 10000, .int 1]) (q' := (189, [some (.ref 1), some (.int v), some (.int (-4)), some (.int (nI 4)), some (.int 0), some (.int 1), some (.long 0), none, some (.long 10000), none, some (.int (nI (2 ^ 4))), o11, none, o13, o14], [], hB 4, 0, 0)) (v := some (.long 1)) (hs' := hB 4) (c' := 0) (s' := 0) rfl rfl (lo4_1 _) ?_
  exact mEnds.ret rfl
set_option maxRecDepth 100000 in
theorem te5 (hs : mH) : mEnds [] 18 86 (mentry 86 [.int 5] hs) (some (.long 100000), hs, 0, 0) := by
  refine mEnds.steps 25 (q' := (9, [some (.int 5), some (.long 100), none, some (.int 2)], [], hs, 0, 0)) rfl ?_
  refine mEnds.steps 25 (q' := (5, [some (.int 5), some (.long 100000), none, some (.int 5)], [.int 5], hs, 0, 0)) rfl ?_
  refine mEnds.steps 3 (q' := (22, [some (.int 5), some (.long 100000), none, some (.int 5)], [.long 100000], hs, 0, 0)) rfl ?_
  exact mEnds.ret rfl
set_option maxRecDepth 100000 in
theorem of5_0 (hs : mH) : mEnds [] 18 87 (mentry 87 [.long 0, .long 100000, .int 0] hs) (some (.long 0), hs, 0, 0) := by
  refine mEnds.steps 2 (q' := (2, [some (.long 0), none, some (.long 100000), none, some (.int 0), none, none], [.long 100000, .long 0], hs, 0, 0)) rfl ?_
  refine mEnds.call (d := 17) (y' := 88) (as := [.long 0, .long 100000]) (q' := (5, [some (.long 0), none, some (.long 100000), none, some (.int 0), none, none], [], hs, 0, 0)) (v := some (.long 100000)) (hs' := hs) (c' := 0) (s' := 0) rfl rfl ?_ ?_
  · refine mEnds.steps 25 (q' := (14, [some (.long 100000), none, some (.long 0), none, some (.int 1), some (.long 0), none], [.int 0], hs, 0, 0)) rfl ?_
    refine mEnds.steps 4 (q' := (38, [some (.long 100000), none, some (.long 0), none, some (.int 1), some (.long 0), none], [.long 100000], hs, 0, 0)) rfl ?_
    exact mEnds.ret rfl
  show mEnds [] 18 87 (5, [some (.long 0), none, some (.long 100000), none, some (.int 0), none, none], [.long 100000], hs, 0, 0) _
  refine mEnds.steps 7 (q' := (23, [some (.long 0), none, some (.long 100000), none, some (.int 0), some (.long 100000), none], [.long 0], hs, 0, 0)) rfl ?_
  exact mEnds.ret rfl
set_option maxRecDepth 100000 in
theorem lo5_0 (hs : mH) : mEnds [] 18 164 (mentry 164 [.long 0, .long 100000, .int 0] hs) (some (.long 0), hs, 0, 0) := by
  refine mEnds.steps 25 (q' := (41, [some (.long 0), none, some (.long 100000), none, some (.int 0), some (.long 100000), none, some (.long 0), none, some (.long 0), none], [.long 0], hs, 0, 0)) rfl ?_
  refine mEnds.steps 2 (q' := (44, [some (.long 0), none, some (.long 100000), none, some (.int 0), some (.long 100000), none, some (.long 0), none, some (.long 0), none], [.long 0], hs, 0, 0)) rfl ?_
  exact mEnds.ret rfl
set_option maxRecDepth 100000 in
theorem bf5_0 (v : Int32) : mEnds [] 19 165 (mentry 165 [.ref 1, .int v, .int (-4), .int 5, .int 0, .int 0] hM0) (some (.long 0), hB 5, 0, 0) := by
  refine mEnds.steps 25 (q' := (11, [some (.ref 1), some (.int v), some (.int (-4)), some (.int 5), some (.int 0), some (.int 0), some (.long 0), none, some (.long 100), none, some (.int 2), none, none, none, none], [.int 2], hM0, 0, 0)) rfl ?_
  refine mEnds.steps 25 (q' := (26, [some (.ref 1), some (.int v), some (.int (-4)), some (.int 5), some (.int 0), some (.int 0), some (.long 0), none, some (.long 100000), none, some (.int 5), none, none, none, none], [], hM0, 0, 0)) rfl ?_
  refine mEnds.steps 6 (q' := (32, [some (.ref 1), some (.int v), some (.int (-4)), some (.int 5), some (.int 0), some (.int 0), some (.long 0), none, some (.long 100000), none, some (.int 0), none, none, none, none], [], hM0, 0, 0)) rfl ?_
  refine ball (N := 5) v 0 100000 (by decide) (fun o11 o13 o14 => ?_)
  refine mEnds.steps 3 (q' := (186, [some (.ref 1), some (.int v), some (.int (-4)), some (.int (nI 5)), some (.int 0), some (.int 0), some (.long 0), none, some (.long 100000), none, some (.int (nI (2 ^ 5))), o11, none, o13, o14], [.int 0, .long 100000, .long 0], hB 5, 0, 0)) rfl ?_
  refine mEnds.call (d := 18) (y' := 164) (as := [.long 0, .long 100000, .int 0]) (q' := (189, [some (.ref 1), some (.int v), some (.int (-4)), some (.int (nI 5)), some (.int 0), some (.int 0), some (.long 0), none, some (.long 100000), none, some (.int (nI (2 ^ 5))), o11, none, o13, o14], [], hB 5, 0, 0)) (v := some (.long 0)) (hs' := hB 5) (c' := 0) (s' := 0) rfl rfl (lo5_0 _) ?_
  exact mEnds.ret rfl
set_option maxRecDepth 100000 in
theorem of5_1 (hs : mH) : mEnds [] 18 87 (mentry 87 [.long 0, .long 100000, .int 1] hs) (some (.long 1), hs, 0, 0) := by
  refine mEnds.steps 2 (q' := (2, [some (.long 0), none, some (.long 100000), none, some (.int 1), none, none], [.long 100000, .long 0], hs, 0, 0)) rfl ?_
  refine mEnds.call (d := 17) (y' := 88) (as := [.long 0, .long 100000]) (q' := (5, [some (.long 0), none, some (.long 100000), none, some (.int 1), none, none], [], hs, 0, 0)) (v := some (.long 100000)) (hs' := hs) (c' := 0) (s' := 0) rfl rfl ?_ ?_
  · refine mEnds.steps 25 (q' := (14, [some (.long 100000), none, some (.long 0), none, some (.int 1), some (.long 0), none], [.int 0], hs, 0, 0)) rfl ?_
    refine mEnds.steps 4 (q' := (38, [some (.long 100000), none, some (.long 0), none, some (.int 1), some (.long 0), none], [.long 100000], hs, 0, 0)) rfl ?_
    exact mEnds.ret rfl
  show mEnds [] 18 87 (5, [some (.long 0), none, some (.long 100000), none, some (.int 1), none, none], [.long 100000], hs, 0, 0) _
  refine mEnds.steps 6 (q' := (23, [some (.long 0), none, some (.long 100000), none, some (.int 1), some (.long 100000), none], [.long 1], hs, 0, 0)) rfl ?_
  exact mEnds.ret rfl
set_option maxRecDepth 100000 in
theorem lo5_1 (hs : mH) : mEnds [] 18 164 (mentry 164 [.long 0, .long 100000, .int 1] hs) (some (.long 1), hs, 0, 0) := by
  refine mEnds.steps 25 (q' := (43, [some (.long 0), none, some (.long 100000), none, some (.int 1), some (.long 100000), none, some (.long 0), none, some (.long 0), none], [.long 100000, .long 100000], hs, 0, 0)) rfl ?_
  refine mEnds.steps 1 (q' := (44, [some (.long 0), none, some (.long 100000), none, some (.int 1), some (.long 100000), none, some (.long 0), none, some (.long 0), none], [.long 1], hs, 0, 0)) rfl ?_
  exact mEnds.ret rfl
set_option maxRecDepth 100000 in
theorem bf5_1 (v : Int32) : mEnds [] 19 165 (mentry 165 [.ref 1, .int v, .int (-4), .int 5, .int 0, .int 1] hM0) (some (.long 1), hB 5, 0, 0) := by
  refine mEnds.steps 25 (q' := (11, [some (.ref 1), some (.int v), some (.int (-4)), some (.int 5), some (.int 0), some (.int 1), some (.long 0), none, some (.long 100), none, some (.int 2), none, none, none, none], [.int 2], hM0, 0, 0)) rfl ?_
  refine mEnds.steps 25 (q' := (26, [some (.ref 1), some (.int v), some (.int (-4)), some (.int 5), some (.int 0), some (.int 1), some (.long 0), none, some (.long 100000), none, some (.int 5), none, none, none, none], [], hM0, 0, 0)) rfl ?_
  refine mEnds.steps 6 (q' := (32, [some (.ref 1), some (.int v), some (.int (-4)), some (.int 5), some (.int 0), some (.int 1), some (.long 0), none, some (.long 100000), none, some (.int 0), none, none, none, none], [], hM0, 0, 0)) rfl ?_
  refine ball (N := 5) v 1 100000 (by decide) (fun o11 o13 o14 => ?_)
  refine mEnds.steps 3 (q' := (186, [some (.ref 1), some (.int v), some (.int (-4)), some (.int (nI 5)), some (.int 0), some (.int 1), some (.long 0), none, some (.long 100000), none, some (.int (nI (2 ^ 5))), o11, none, o13, o14], [.int 1, .long 100000, .long 0], hB 5, 0, 0)) rfl ?_
  refine mEnds.call (d := 18) (y' := 164) (as := [.long 0, .long 100000, .int 1]) (q' := (189, [some (.ref 1), some (.int v), some (.int (-4)), some (.int (nI 5)), some (.int 0), some (.int 1), some (.long 0), none, some (.long 100000), none, some (.int (nI (2 ^ 5))), o11, none, o13, o14], [], hB 5, 0, 0)) (v := some (.long 1)) (hs' := hB 5) (c' := 0) (s' := 0) rfl rfl (lo5_1 _) ?_
  exact mEnds.ret rfl
set_option maxRecDepth 100000 in
theorem te6 (hs : mH) : mEnds [] 18 86 (mentry 86 [.int 6] hs) (some (.long 1000000), hs, 0, 0) := by
  refine mEnds.steps 25 (q' := (9, [some (.int 6), some (.long 100), none, some (.int 2)], [], hs, 0, 0)) rfl ?_
  refine mEnds.steps 25 (q' := (5, [some (.int 6), some (.long 100000), none, some (.int 5)], [.int 5], hs, 0, 0)) rfl ?_
  refine mEnds.steps 12 (q' := (22, [some (.int 6), some (.long 1000000), none, some (.int 6)], [.long 1000000], hs, 0, 0)) rfl ?_
  exact mEnds.ret rfl
set_option maxRecDepth 100000 in
theorem of6_0 (hs : mH) : mEnds [] 18 87 (mentry 87 [.long 0, .long 1000000, .int 0] hs) (some (.long 0), hs, 0, 0) := by
  refine mEnds.steps 2 (q' := (2, [some (.long 0), none, some (.long 1000000), none, some (.int 0), none, none], [.long 1000000, .long 0], hs, 0, 0)) rfl ?_
  refine mEnds.call (d := 17) (y' := 88) (as := [.long 0, .long 1000000]) (q' := (5, [some (.long 0), none, some (.long 1000000), none, some (.int 0), none, none], [], hs, 0, 0)) (v := some (.long 1000000)) (hs' := hs) (c' := 0) (s' := 0) rfl rfl ?_ ?_
  · refine mEnds.steps 25 (q' := (14, [some (.long 1000000), none, some (.long 0), none, some (.int 1), some (.long 0), none], [.int 0], hs, 0, 0)) rfl ?_
    refine mEnds.steps 4 (q' := (38, [some (.long 1000000), none, some (.long 0), none, some (.int 1), some (.long 0), none], [.long 1000000], hs, 0, 0)) rfl ?_
    exact mEnds.ret rfl
  show mEnds [] 18 87 (5, [some (.long 0), none, some (.long 1000000), none, some (.int 0), none, none], [.long 1000000], hs, 0, 0) _
  refine mEnds.steps 7 (q' := (23, [some (.long 0), none, some (.long 1000000), none, some (.int 0), some (.long 1000000), none], [.long 0], hs, 0, 0)) rfl ?_
  exact mEnds.ret rfl
set_option maxRecDepth 100000 in
theorem lo6_0 (hs : mH) : mEnds [] 18 164 (mentry 164 [.long 0, .long 1000000, .int 0] hs) (some (.long 0), hs, 0, 0) := by
  refine mEnds.steps 25 (q' := (41, [some (.long 0), none, some (.long 1000000), none, some (.int 0), some (.long 1000000), none, some (.long 0), none, some (.long 0), none], [.long 0], hs, 0, 0)) rfl ?_
  refine mEnds.steps 2 (q' := (44, [some (.long 0), none, some (.long 1000000), none, some (.int 0), some (.long 1000000), none, some (.long 0), none, some (.long 0), none], [.long 0], hs, 0, 0)) rfl ?_
  exact mEnds.ret rfl
set_option maxRecDepth 100000 in
theorem bf6_0 (v : Int32) : mEnds [] 19 165 (mentry 165 [.ref 1, .int v, .int (-4), .int 6, .int 0, .int 0] hM0) (some (.long 0), hB 6, 0, 0) := by
  refine mEnds.steps 25 (q' := (11, [some (.ref 1), some (.int v), some (.int (-4)), some (.int 6), some (.int 0), some (.int 0), some (.long 0), none, some (.long 100), none, some (.int 2), none, none, none, none], [.int 2], hM0, 0, 0)) rfl ?_
  refine mEnds.steps 25 (q' := (26, [some (.ref 1), some (.int v), some (.int (-4)), some (.int 6), some (.int 0), some (.int 0), some (.long 0), none, some (.long 100000), none, some (.int 5), none, none, none, none], [], hM0, 0, 0)) rfl ?_
  refine mEnds.steps 15 (q' := (32, [some (.ref 1), some (.int v), some (.int (-4)), some (.int 6), some (.int 0), some (.int 0), some (.long 0), none, some (.long 1000000), none, some (.int 0), none, none, none, none], [], hM0, 0, 0)) rfl ?_
  refine ball (N := 6) v 0 1000000 (by decide) (fun o11 o13 o14 => ?_)
  refine mEnds.steps 3 (q' := (186, [some (.ref 1), some (.int v), some (.int (-4)), some (.int (nI 6)), some (.int 0), some (.int 0), some (.long 0), none, some (.long 1000000), none, some (.int (nI (2 ^ 6))), o11, none, o13, o14], [.int 0, .long 1000000, .long 0], hB 6, 0, 0)) rfl ?_
  refine mEnds.call (d := 18) (y' := 164) (as := [.long 0, .long 1000000, .int 0]) (q' := (189, [some (.ref 1), some (.int v), some (.int (-4)), some (.int (nI 6)), some (.int 0), some (.int 0), some (.long 0), none, some (.long 1000000), none, some (.int (nI (2 ^ 6))), o11, none, o13, o14], [], hB 6, 0, 0)) (v := some (.long 0)) (hs' := hB 6) (c' := 0) (s' := 0) rfl rfl (lo6_0 _) ?_
  exact mEnds.ret rfl
set_option maxRecDepth 100000 in
theorem of6_1 (hs : mH) : mEnds [] 18 87 (mentry 87 [.long 0, .long 1000000, .int 1] hs) (some (.long 1), hs, 0, 0) := by
  refine mEnds.steps 2 (q' := (2, [some (.long 0), none, some (.long 1000000), none, some (.int 1), none, none], [.long 1000000, .long 0], hs, 0, 0)) rfl ?_
  refine mEnds.call (d := 17) (y' := 88) (as := [.long 0, .long 1000000]) (q' := (5, [some (.long 0), none, some (.long 1000000), none, some (.int 1), none, none], [], hs, 0, 0)) (v := some (.long 1000000)) (hs' := hs) (c' := 0) (s' := 0) rfl rfl ?_ ?_
  · refine mEnds.steps 25 (q' := (14, [some (.long 1000000), none, some (.long 0), none, some (.int 1), some (.long 0), none], [.int 0], hs, 0, 0)) rfl ?_
    refine mEnds.steps 4 (q' := (38, [some (.long 1000000), none, some (.long 0), none, some (.int 1), some (.long 0), none], [.long 1000000], hs, 0, 0)) rfl ?_
    exact mEnds.ret rfl
  show mEnds [] 18 87 (5, [some (.long 0), none, some (.long 1000000), none, some (.int 1), none, none], [.long 1000000], hs, 0, 0) _
  refine mEnds.steps 6 (q' := (23, [some (.long 0), none, some (.long 1000000), none, some (.int 1), some (.long 1000000), none], [.long 1], hs, 0, 0)) rfl ?_
  exact mEnds.ret rfl
set_option maxRecDepth 100000 in
theorem lo6_1 (hs : mH) : mEnds [] 18 164 (mentry 164 [.long 0, .long 1000000, .int 1] hs) (some (.long 1), hs, 0, 0) := by
  refine mEnds.steps 25 (q' := (43, [some (.long 0), none, some (.long 1000000), none, some (.int 1), some (.long 1000000), none, some (.long 0), none, some (.long 0), none], [.long 1000000, .long 1000000], hs, 0, 0)) rfl ?_
  refine mEnds.steps 1 (q' := (44, [some (.long 0), none, some (.long 1000000), none, some (.int 1), some (.long 1000000), none, some (.long 0), none, some (.long 0), none], [.long 1], hs, 0, 0)) rfl ?_
  exact mEnds.ret rfl
set_option maxRecDepth 100000 in
theorem bf6_1 (v : Int32) : mEnds [] 19 165 (mentry 165 [.ref 1, .int v, .int (-4), .int 6, .int 0, .int 1] hM0) (some (.long 1), hB 6, 0, 0) := by
  refine mEnds.steps 25 (q' := (11, [some (.ref 1), some (.int v), some (.int (-4)), some (.int 6), some (.int 0), some (.int 1), some (.long 0), none, some (.long 100), none, some (.int 2), none, none, none, none], [.int 2], hM0, 0, 0)) rfl ?_
  refine mEnds.steps 25 (q' := (26, [some (.ref 1), some (.int v), some (.int (-4)), some (.int 6), some (.int 0), some (.int 1), some (.long 0), none, some (.long 100000), none, some (.int 5), none, none, none, none], [], hM0, 0, 0)) rfl ?_
  refine mEnds.steps 15 (q' := (32, [some (.ref 1), some (.int v), some (.int (-4)), some (.int 6), some (.int 0), some (.int 1), some (.long 0), none, some (.long 1000000), none, some (.int 0), none, none, none, none], [], hM0, 0, 0)) rfl ?_
  refine ball (N := 6) v 1 1000000 (by decide) (fun o11 o13 o14 => ?_)
  refine mEnds.steps 3 (q' := (186, [some (.ref 1), some (.int v), some (.int (-4)), some (.int (nI 6)), some (.int 0), some (.int 1), some (.long 0), none, some (.long 1000000), none, some (.int (nI (2 ^ 6))), o11, none, o13, o14], [.int 1, .long 1000000, .long 0], hB 6, 0, 0)) rfl ?_
  refine mEnds.call (d := 18) (y' := 164) (as := [.long 0, .long 1000000, .int 1]) (q' := (189, [some (.ref 1), some (.int v), some (.int (-4)), some (.int (nI 6)), some (.int 0), some (.int 1), some (.long 0), none, some (.long 1000000), none, some (.int (nI (2 ^ 6))), o11, none, o13, o14], [], hB 6, 0, 0)) (v := some (.long 1)) (hs' := hB 6) (c' := 0) (s' := 0) rfl rfl (lo6_1 _) ?_
  exact mEnds.ret rfl
set_option maxRecDepth 100000 in
theorem te7 (hs : mH) : mEnds [] 18 86 (mentry 86 [.int 7] hs) (some (.long 10000000), hs, 0, 0) := by
  refine mEnds.steps 25 (q' := (9, [some (.int 7), some (.long 100), none, some (.int 2)], [], hs, 0, 0)) rfl ?_
  refine mEnds.steps 25 (q' := (5, [some (.int 7), some (.long 100000), none, some (.int 5)], [.int 5], hs, 0, 0)) rfl ?_
  refine mEnds.steps 21 (q' := (22, [some (.int 7), some (.long 10000000), none, some (.int 7)], [.long 10000000], hs, 0, 0)) rfl ?_
  exact mEnds.ret rfl
set_option maxRecDepth 100000 in
theorem of7_0 (hs : mH) : mEnds [] 18 87 (mentry 87 [.long 0, .long 10000000, .int 0] hs) (some (.long 0), hs, 0, 0) := by
  refine mEnds.steps 2 (q' := (2, [some (.long 0), none, some (.long 10000000), none, some (.int 0), none, none], [.long 10000000, .long 0], hs, 0, 0)) rfl ?_
  refine mEnds.call (d := 17) (y' := 88) (as := [.long 0, .long 10000000]) (q' := (5, [some (.long 0), none, some (.long 10000000), none, some (.int 0), none, none], [], hs, 0, 0)) (v := some (.long 10000000)) (hs' := hs) (c' := 0) (s' := 0) rfl rfl ?_ ?_
  · refine mEnds.steps 25 (q' := (14, [some (.long 10000000), none, some (.long 0), none, some (.int 1), some (.long 0), none], [.int 0], hs, 0, 0)) rfl ?_
    refine mEnds.steps 4 (q' := (38, [some (.long 10000000), none, some (.long 0), none, some (.int 1), some (.long 0), none], [.long 10000000], hs, 0, 0)) rfl ?_
    exact mEnds.ret rfl
  show mEnds [] 18 87 (5, [some (.long 0), none, some (.long 10000000), none, some (.int 0), none, none], [.long 10000000], hs, 0, 0) _
  refine mEnds.steps 7 (q' := (23, [some (.long 0), none, some (.long 10000000), none, some (.int 0), some (.long 10000000), none], [.long 0], hs, 0, 0)) rfl ?_
  exact mEnds.ret rfl
set_option maxRecDepth 100000 in
theorem lo7_0 (hs : mH) : mEnds [] 18 164 (mentry 164 [.long 0, .long 10000000, .int 0] hs) (some (.long 0), hs, 0, 0) := by
  refine mEnds.steps 25 (q' := (41, [some (.long 0), none, some (.long 10000000), none, some (.int 0), some (.long 10000000), none, some (.long 0), none, some (.long 0), none], [.long 0], hs, 0, 0)) rfl ?_
  refine mEnds.steps 2 (q' := (44, [some (.long 0), none, some (.long 10000000), none, some (.int 0), some (.long 10000000), none, some (.long 0), none, some (.long 0), none], [.long 0], hs, 0, 0)) rfl ?_
  exact mEnds.ret rfl
set_option maxRecDepth 100000 in
theorem bf7_0 (v : Int32) : mEnds [] 19 165 (mentry 165 [.ref 1, .int v, .int (-4), .int 7, .int 0, .int 0] hM0) (some (.long 0), hB 7, 0, 0) := by
  refine mEnds.steps 25 (q' := (11, [some (.ref 1), some (.int v), some (.int (-4)), some (.int 7), some (.int 0), some (.int 0), some (.long 0), none, some (.long 100), none, some (.int 2), none, none, none, none], [.int 2], hM0, 0, 0)) rfl ?_
  refine mEnds.steps 25 (q' := (26, [some (.ref 1), some (.int v), some (.int (-4)), some (.int 7), some (.int 0), some (.int 0), some (.long 0), none, some (.long 100000), none, some (.int 5), none, none, none, none], [], hM0, 0, 0)) rfl ?_
  refine mEnds.steps 24 (q' := (32, [some (.ref 1), some (.int v), some (.int (-4)), some (.int 7), some (.int 0), some (.int 0), some (.long 0), none, some (.long 10000000), none, some (.int 0), none, none, none, none], [], hM0, 0, 0)) rfl ?_
  refine ball (N := 7) v 0 10000000 (by decide) (fun o11 o13 o14 => ?_)
  refine mEnds.steps 3 (q' := (186, [some (.ref 1), some (.int v), some (.int (-4)), some (.int (nI 7)), some (.int 0), some (.int 0), some (.long 0), none, some (.long 10000000), none, some (.int (nI (2 ^ 7))), o11, none, o13, o14], [.int 0, .long 10000000, .long 0], hB 7, 0, 0)) rfl ?_
  refine mEnds.call (d := 18) (y' := 164) (as := [.long 0, .long 10000000, .int 0]) (q' := (189, [some (.ref 1), some (.int v), some (.int (-4)), some (.int (nI 7)), some (.int 0), some (.int 0), some (.long 0), none, some (.long 10000000), none, some (.int (nI (2 ^ 7))), o11, none, o13, o14], [], hB 7, 0, 0)) (v := some (.long 0)) (hs' := hB 7) (c' := 0) (s' := 0) rfl rfl (lo7_0 _) ?_
  exact mEnds.ret rfl
set_option maxRecDepth 100000 in
theorem of7_1 (hs : mH) : mEnds [] 18 87 (mentry 87 [.long 0, .long 10000000, .int 1] hs) (some (.long 1), hs, 0, 0) := by
  refine mEnds.steps 2 (q' := (2, [some (.long 0), none, some (.long 10000000), none, some (.int 1), none, none], [.long 10000000, .long 0], hs, 0, 0)) rfl ?_
  refine mEnds.call (d := 17) (y' := 88) (as := [.long 0, .long 10000000]) (q' := (5, [some (.long 0), none, some (.long 10000000), none, some (.int 1), none, none], [], hs, 0, 0)) (v := some (.long 10000000)) (hs' := hs) (c' := 0) (s' := 0) rfl rfl ?_ ?_
  · refine mEnds.steps 25 (q' := (14, [some (.long 10000000), none, some (.long 0), none, some (.int 1), some (.long 0), none], [.int 0], hs, 0, 0)) rfl ?_
    refine mEnds.steps 4 (q' := (38, [some (.long 10000000), none, some (.long 0), none, some (.int 1), some (.long 0), none], [.long 10000000], hs, 0, 0)) rfl ?_
    exact mEnds.ret rfl
  show mEnds [] 18 87 (5, [some (.long 0), none, some (.long 10000000), none, some (.int 1), none, none], [.long 10000000], hs, 0, 0) _
  refine mEnds.steps 6 (q' := (23, [some (.long 0), none, some (.long 10000000), none, some (.int 1), some (.long 10000000), none], [.long 1], hs, 0, 0)) rfl ?_
  exact mEnds.ret rfl
set_option maxRecDepth 100000 in
theorem lo7_1 (hs : mH) : mEnds [] 18 164 (mentry 164 [.long 0, .long 10000000, .int 1] hs) (some (.long 1), hs, 0, 0) := by
  refine mEnds.steps 25 (q' := (43, [some (.long 0), none, some (.long 10000000), none, some (.int 1), some (.long 10000000), none, some (.long 0), none, some (.long 0), none], [.long 10000000, .long 10000000], hs, 0, 0)) rfl ?_
  refine mEnds.steps 1 (q' := (44, [some (.long 0), none, some (.long 10000000), none, some (.int 1), some (.long 10000000), none, some (.long 0), none, some (.long 0), none], [.long 1], hs, 0, 0)) rfl ?_
  exact mEnds.ret rfl
set_option maxRecDepth 100000 in
theorem bf7_1 (v : Int32) : mEnds [] 19 165 (mentry 165 [.ref 1, .int v, .int (-4), .int 7, .int 0, .int 1] hM0) (some (.long 1), hB 7, 0, 0) := by
  refine mEnds.steps 25 (q' := (11, [some (.ref 1), some (.int v), some (.int (-4)), some (.int 7), some (.int 0), some (.int 1), some (.long 0), none, some (.long 100), none, some (.int 2), none, none, none, none], [.int 2], hM0, 0, 0)) rfl ?_
  refine mEnds.steps 25 (q' := (26, [some (.ref 1), some (.int v), some (.int (-4)), some (.int 7), some (.int 0), some (.int 1), some (.long 0), none, some (.long 100000), none, some (.int 5), none, none, none, none], [], hM0, 0, 0)) rfl ?_
  refine mEnds.steps 24 (q' := (32, [some (.ref 1), some (.int v), some (.int (-4)), some (.int 7), some (.int 0), some (.int 1), some (.long 0), none, some (.long 10000000), none, some (.int 0), none, none, none, none], [], hM0, 0, 0)) rfl ?_
  refine ball (N := 7) v 1 10000000 (by decide) (fun o11 o13 o14 => ?_)
  refine mEnds.steps 3 (q' := (186, [some (.ref 1), some (.int v), some (.int (-4)), some (.int (nI 7)), some (.int 0), some (.int 1), some (.long 0), none, some (.long 10000000), none, some (.int (nI (2 ^ 7))), o11, none, o13, o14], [.int 1, .long 10000000, .long 0], hB 7, 0, 0)) rfl ?_
  refine mEnds.call (d := 18) (y' := 164) (as := [.long 0, .long 10000000, .int 1]) (q' := (189, [some (.ref 1), some (.int v), some (.int (-4)), some (.int (nI 7)), some (.int 0), some (.int 1), some (.long 0), none, some (.long 10000000), none, some (.int (nI (2 ^ 7))), o11, none, o13, o14], [], hB 7, 0, 0)) (v := some (.long 1)) (hs' := hB 7) (c' := 0) (s' := 0) rfl rfl (lo7_1 _) ?_
  exact mEnds.ret rfl
set_option maxRecDepth 100000 in
theorem te8 (hs : mH) : mEnds [] 18 86 (mentry 86 [.int 8] hs) (some (.long 100000000), hs, 0, 0) := by
  refine mEnds.steps 25 (q' := (9, [some (.int 8), some (.long 100), none, some (.int 2)], [], hs, 0, 0)) rfl ?_
  refine mEnds.steps 25 (q' := (5, [some (.int 8), some (.long 100000), none, some (.int 5)], [.int 5], hs, 0, 0)) rfl ?_
  refine mEnds.steps 25 (q' := (18, [some (.int 8), some (.long 100000000), none, some (.int 8)], [], hs, 0, 0)) rfl ?_
  refine mEnds.steps 5 (q' := (22, [some (.int 8), some (.long 100000000), none, some (.int 8)], [.long 100000000], hs, 0, 0)) rfl ?_
  exact mEnds.ret rfl
set_option maxRecDepth 100000 in
theorem of8_0 (hs : mH) : mEnds [] 18 87 (mentry 87 [.long 0, .long 100000000, .int 0] hs) (some (.long 0), hs, 0, 0) := by
  refine mEnds.steps 2 (q' := (2, [some (.long 0), none, some (.long 100000000), none, some (.int 0), none, none], [.long 100000000, .long 0], hs, 0, 0)) rfl ?_
  refine mEnds.call (d := 17) (y' := 88) (as := [.long 0, .long 100000000]) (q' := (5, [some (.long 0), none, some (.long 100000000), none, some (.int 0), none, none], [], hs, 0, 0)) (v := some (.long 100000000)) (hs' := hs) (c' := 0) (s' := 0) rfl rfl ?_ ?_
  · refine mEnds.steps 25 (q' := (14, [some (.long 100000000), none, some (.long 0), none, some (.int 1), some (.long 0), none], [.int 0], hs, 0, 0)) rfl ?_
    refine mEnds.steps 4 (q' := (38, [some (.long 100000000), none, some (.long 0), none, some (.int 1), some (.long 0), none], [.long 100000000], hs, 0, 0)) rfl ?_
    exact mEnds.ret rfl
  show mEnds [] 18 87 (5, [some (.long 0), none, some (.long 100000000), none, some (.int 0), none, none], [.long 100000000], hs, 0, 0) _
  refine mEnds.steps 7 (q' := (23, [some (.long 0), none, some (.long 100000000), none, some (.int 0), some (.long 100000000), none], [.long 0], hs, 0, 0)) rfl ?_
  exact mEnds.ret rfl
set_option maxRecDepth 100000 in
theorem lo8_0 (hs : mH) : mEnds [] 18 164 (mentry 164 [.long 0, .long 100000000, .int 0] hs) (some (.long 0), hs, 0, 0) := by
  refine mEnds.steps 25 (q' := (41, [some (.long 0), none, some (.long 100000000), none, some (.int 0), some (.long 100000000), none, some (.long 0), none, some (.long 0), none], [.long 0], hs, 0, 0)) rfl ?_
  refine mEnds.steps 2 (q' := (44, [some (.long 0), none, some (.long 100000000), none, some (.int 0), some (.long 100000000), none, some (.long 0), none, some (.long 0), none], [.long 0], hs, 0, 0)) rfl ?_
  exact mEnds.ret rfl
set_option maxRecDepth 100000 in
theorem bf8_0 (v : Int32) : mEnds [] 19 165 (mentry 165 [.ref 1, .int v, .int (-4), .int 8, .int 0, .int 0] hM0) (some (.long 0), hB 8, 0, 0) := by
  refine mEnds.steps 25 (q' := (11, [some (.ref 1), some (.int v), some (.int (-4)), some (.int 8), some (.int 0), some (.int 0), some (.long 0), none, some (.long 100), none, some (.int 2), none, none, none, none], [.int 2], hM0, 0, 0)) rfl ?_
  refine mEnds.steps 25 (q' := (26, [some (.ref 1), some (.int v), some (.int (-4)), some (.int 8), some (.int 0), some (.int 0), some (.long 0), none, some (.long 100000), none, some (.int 5), none, none, none, none], [], hM0, 0, 0)) rfl ?_
  refine mEnds.steps 25 (q' := (21, [some (.ref 1), some (.int v), some (.int (-4)), some (.int 8), some (.int 0), some (.int 0), some (.long 0), none, some (.long 10000000), none, some (.int 7), none, none, none, none], [.long 100000000], hM0, 0, 0)) rfl ?_
  refine mEnds.steps 8 (q' := (32, [some (.ref 1), some (.int v), some (.int (-4)), some (.int 8), some (.int 0), some (.int 0), some (.long 0), none, some (.long 100000000), none, some (.int 0), none, none, none, none], [], hM0, 0, 0)) rfl ?_
  refine ball (N := 8) v 0 100000000 (by decide) (fun o11 o13 o14 => ?_)
  refine mEnds.steps 3 (q' := (186, [some (.ref 1), some (.int v), some (.int (-4)), some (.int (nI 8)), some (.int 0), some (.int 0), some (.long 0), none, some (.long 100000000), none, some (.int (nI (2 ^ 8))), o11, none, o13, o14], [.int 0, .long 100000000, .long 0], hB 8, 0, 0)) rfl ?_
  refine mEnds.call (d := 18) (y' := 164) (as := [.long 0, .long 100000000, .int 0]) (q' := (189, [some (.ref 1), some (.int v), some (.int (-4)), some (.int (nI 8)), some (.int 0), some (.int 0), some (.long 0), none, some (.long 100000000), none, some (.int (nI (2 ^ 8))), o11, none, o13, o14], [], hB 8, 0, 0)) (v := some (.long 0)) (hs' := hB 8) (c' := 0) (s' := 0) rfl rfl (lo8_0 _) ?_
  exact mEnds.ret rfl
set_option maxRecDepth 100000 in
theorem of8_1 (hs : mH) : mEnds [] 18 87 (mentry 87 [.long 0, .long 100000000, .int 1] hs) (some (.long 1), hs, 0, 0) := by
  refine mEnds.steps 2 (q' := (2, [some (.long 0), none, some (.long 100000000), none, some (.int 1), none, none], [.long 100000000, .long 0], hs, 0, 0)) rfl ?_
  refine mEnds.call (d := 17) (y' := 88) (as := [.long 0, .long 100000000]) (q' := (5, [some (.long 0), none, some (.long 100000000), none, some (.int 1), none, none], [], hs, 0, 0)) (v := some (.long 100000000)) (hs' := hs) (c' := 0) (s' := 0) rfl rfl ?_ ?_
  · refine mEnds.steps 25 (q' := (14, [some (.long 100000000), none, some (.long 0), none, some (.int 1), some (.long 0), none], [.int 0], hs, 0, 0)) rfl ?_
    refine mEnds.steps 4 (q' := (38, [some (.long 100000000), none, some (.long 0), none, some (.int 1), some (.long 0), none], [.long 100000000], hs, 0, 0)) rfl ?_
    exact mEnds.ret rfl
  show mEnds [] 18 87 (5, [some (.long 0), none, some (.long 100000000), none, some (.int 1), none, none], [.long 100000000], hs, 0, 0) _
  refine mEnds.steps 6 (q' := (23, [some (.long 0), none, some (.long 100000000), none, some (.int 1), some (.long 100000000), none], [.long 1], hs, 0, 0)) rfl ?_
  exact mEnds.ret rfl
set_option maxRecDepth 100000 in
theorem lo8_1 (hs : mH) : mEnds [] 18 164 (mentry 164 [.long 0, .long 100000000, .int 1] hs) (some (.long 1), hs, 0, 0) := by
  refine mEnds.steps 25 (q' := (43, [some (.long 0), none, some (.long 100000000), none, some (.int 1), some (.long 100000000), none, some (.long 0), none, some (.long 0), none], [.long 100000000, .long 100000000], hs, 0, 0)) rfl ?_
  refine mEnds.steps 1 (q' := (44, [some (.long 0), none, some (.long 100000000), none, some (.int 1), some (.long 100000000), none, some (.long 0), none, some (.long 0), none], [.long 1], hs, 0, 0)) rfl ?_
  exact mEnds.ret rfl
set_option maxRecDepth 100000 in
theorem bf8_1 (v : Int32) : mEnds [] 19 165 (mentry 165 [.ref 1, .int v, .int (-4), .int 8, .int 0, .int 1] hM0) (some (.long 1), hB 8, 0, 0) := by
  refine mEnds.steps 25 (q' := (11, [some (.ref 1), some (.int v), some (.int (-4)), some (.int 8), some (.int 0), some (.int 1), some (.long 0), none, some (.long 100), none, some (.int 2), none, none, none, none], [.int 2], hM0, 0, 0)) rfl ?_
  refine mEnds.steps 25 (q' := (26, [some (.ref 1), some (.int v), some (.int (-4)), some (.int 8), some (.int 0), some (.int 1), some (.long 0), none, some (.long 100000), none, some (.int 5), none, none, none, none], [], hM0, 0, 0)) rfl ?_
  refine mEnds.steps 25 (q' := (21, [some (.ref 1), some (.int v), some (.int (-4)), some (.int 8), some (.int 0), some (.int 1), some (.long 0), none, some (.long 10000000), none, some (.int 7), none, none, none, none], [.long 100000000], hM0, 0, 0)) rfl ?_
  refine mEnds.steps 8 (q' := (32, [some (.ref 1), some (.int v), some (.int (-4)), some (.int 8), some (.int 0), some (.int 1), some (.long 0), none, some (.long 100000000), none, some (.int 0), none, none, none, none], [], hM0, 0, 0)) rfl ?_
  refine ball (N := 8) v 1 100000000 (by decide) (fun o11 o13 o14 => ?_)
  refine mEnds.steps 3 (q' := (186, [some (.ref 1), some (.int v), some (.int (-4)), some (.int (nI 8)), some (.int 0), some (.int 1), some (.long 0), none, some (.long 100000000), none, some (.int (nI (2 ^ 8))), o11, none, o13, o14], [.int 1, .long 100000000, .long 0], hB 8, 0, 0)) rfl ?_
  refine mEnds.call (d := 18) (y' := 164) (as := [.long 0, .long 100000000, .int 1]) (q' := (189, [some (.ref 1), some (.int v), some (.int (-4)), some (.int (nI 8)), some (.int 0), some (.int 1), some (.long 0), none, some (.long 100000000), none, some (.int (nI (2 ^ 8))), o11, none, o13, o14], [], hB 8, 0, 0)) (v := some (.long 1)) (hs' := hB 8) (c' := 0) (s' := 0) rfl rfl (lo8_1 _) ?_
  exact mEnds.ret rfl
set_option maxRecDepth 100000 in
theorem c25_T (x1 x2 x3 : Int32) (f0 : decide (x1 < 0) = true) : ∃ hs', mEnds [] 20 82 (mentry 82 [.ref 1, .int x1, .int x2, .int x3] hC0) (some (.long (-1)), hs', 0, 0) := by
  refine ⟨hC0, ?_⟩
  refine mEnds.steps 3 (q' := (3, [some (.ref 1), some (.int x1), some (.int x2), some (.int x3)], [.int x3, .int x2, .int x1], hC0, 0, 0)) rfl ?_
  refine mEnds.call (d := 19) (y' := 83) (as := [.int x1, .int x2, .int x3]) (q' := (6, [some (.ref 1), some (.int x1), some (.int x2), some (.int x3)], [], hC0, 0, 0)) (v := some (.int 0)) (hs' := hC0) (c' := 0) (s' := 0) rfl rfl ?_ ?_
  · refine mEnds.steps 3 (q' := (4, [some (.int x1), some (.int x2), some (.int x3)], [.int 10, .int 0, .int x1], hC0, 0, 0)) rfl ?_
    refine mEnds.call (d := 18) (y' := 105) (as := [.int x1, .int 0, .int 10]) (q' := (7, [some (.int x1), some (.int x2), some (.int x3)], [], hC0, 0, 0)) (v := some (.int 0)) (hs' := hC0) (c' := 0) (s' := 0) rfl rfl ?_ ?_
    · refine mEnds.steps 2 (q' := (2, [some (.int x1), some (.int 0), some (.int 10)], [.int 0, .int x1], hC0, 0, 0)) rfl ?_
      refine mEnds.brT (q' := (14, [some (.int x1), some (.int 0), some (.int 10)], [], hC0, 0, 0)) rfl f0 rfl ?_
      refine mEnds.steps 1 (q' := (15, [some (.int x1), some (.int 0), some (.int 10)], [.int 0], hC0, 0, 0)) rfl ?_
      exact mEnds.ret rfl
    show mEnds [] 19 83 (7, [some (.int x1), some (.int x2), some (.int x3)], [.int 0], hC0, 0, 0) _
    refine mEnds.steps 2 (q' := (34, [some (.int x1), some (.int x2), some (.int x3)], [.int 0], hC0, 0, 0)) rfl ?_
    exact mEnds.ret rfl
  show mEnds [] 20 82 (6, [some (.ref 1), some (.int x1), some (.int x2), some (.int x3)], [.int 0], hC0, 0, 0) _
  refine mEnds.steps 2 (q' := (12, [some (.ref 1), some (.int x1), some (.int x2), some (.int x3)], [.long (-1)], hC0, 0, 0)) rfl ?_
  exact mEnds.ret rfl
set_option maxRecDepth 100000 in
theorem m25_T (x1 x2 x3 : Int32) (f0 : decide (x1 < 0) = true) : ∃ hs', mEnds [] 20 167 (mentry 167 [.ref 1, .int x1, .int x2, .int x3] hM0) (some (.long (-1)), hs', 0, 0) := by
  refine ⟨hM0, ?_⟩
  refine mEnds.steps 4 (q' := (6, [some (.ref 1), some (.int x1), some (.int x2), some (.int x3)], [.long 10, .long 0, .long x1.toInt64], hM0, 0, 0)) rfl ?_
  refine mEnds.call (d := 19) (y' := 111) (as := [.long x1.toInt64, .long 0, .long 10]) (q' := (9, [some (.ref 1), some (.int x1), some (.int x2), some (.int x3)], [], hM0, 0, 0)) (v := some (.int 0)) (hs' := hM0) (c' := 0) (s' := 0) rfl rfl ?_ ?_
  · refine mEnds.steps 3 (q' := (3, [some (.long x1.toInt64), none, some (.long 0), none, some (.long 10), none], [.int (lg_cmp x1.toInt64 0)], hM0, 0, 0)) rfl ?_
    refine mEnds.brT (q' := (17, [some (.long x1.toInt64), none, some (.long 0), none, some (.long 10), none], [], hM0, 0, 0)) rfl (lgc_lt (c := 0) (by decide) f0) rfl ?_
    refine mEnds.steps 1 (q' := (18, [some (.long x1.toInt64), none, some (.long 0), none, some (.long 10), none], [.int 0], hM0, 0, 0)) rfl ?_
    exact mEnds.ret rfl
  show mEnds [] 20 167 (9, [some (.ref 1), some (.int x1), some (.int x2), some (.int x3)], [.int 0], hM0, 0, 0) _
  refine mEnds.steps 2 (q' := (50, [some (.ref 1), some (.int x1), some (.int x2), some (.int x3)], [.long (-1)], hM0, 0, 0)) rfl ?_
  exact mEnds.ret rfl
set_option maxRecDepth 100000 in
theorem c25_FT (x1 x2 x3 : Int32) (f0 : decide (x1 < 0) = false) (f1 : decide (10 < x1) = true) : ∃ hs', mEnds [] 20 82 (mentry 82 [.ref 1, .int x1, .int x2, .int x3] hC0) (some (.long (-1)), hs', 0, 0) := by
  refine ⟨hC0, ?_⟩
  refine mEnds.steps 3 (q' := (3, [some (.ref 1), some (.int x1), some (.int x2), some (.int x3)], [.int x3, .int x2, .int x1], hC0, 0, 0)) rfl ?_
  refine mEnds.call (d := 19) (y' := 83) (as := [.int x1, .int x2, .int x3]) (q' := (6, [some (.ref 1), some (.int x1), some (.int x2), some (.int x3)], [], hC0, 0, 0)) (v := some (.int 0)) (hs' := hC0) (c' := 0) (s' := 0) rfl rfl ?_ ?_
  · refine mEnds.steps 3 (q' := (4, [some (.int x1), some (.int x2), some (.int x3)], [.int 10, .int 0, .int x1], hC0, 0, 0)) rfl ?_
    refine mEnds.call (d := 18) (y' := 105) (as := [.int x1, .int 0, .int 10]) (q' := (7, [some (.int x1), some (.int x2), some (.int x3)], [], hC0, 0, 0)) (v := some (.int 0)) (hs' := hC0) (c' := 0) (s' := 0) rfl rfl ?_ ?_
    · refine mEnds.steps 2 (q' := (2, [some (.int x1), some (.int 0), some (.int 10)], [.int 0, .int x1], hC0, 0, 0)) rfl ?_
      refine mEnds.brF (q' := (5, [some (.int x1), some (.int 0), some (.int 10)], [], hC0, 0, 0)) rfl f0 rfl ?_
      refine mEnds.steps 2 (q' := (7, [some (.int x1), some (.int 0), some (.int 10)], [.int 10, .int x1], hC0, 0, 0)) rfl ?_
      refine mEnds.brT (q' := (14, [some (.int x1), some (.int 0), some (.int 10)], [], hC0, 0, 0)) rfl f1 rfl ?_
      refine mEnds.steps 1 (q' := (15, [some (.int x1), some (.int 0), some (.int 10)], [.int 0], hC0, 0, 0)) rfl ?_
      exact mEnds.ret rfl
    show mEnds [] 19 83 (7, [some (.int x1), some (.int x2), some (.int x3)], [.int 0], hC0, 0, 0) _
    refine mEnds.steps 2 (q' := (34, [some (.int x1), some (.int x2), some (.int x3)], [.int 0], hC0, 0, 0)) rfl ?_
    exact mEnds.ret rfl
  show mEnds [] 20 82 (6, [some (.ref 1), some (.int x1), some (.int x2), some (.int x3)], [.int 0], hC0, 0, 0) _
  refine mEnds.steps 2 (q' := (12, [some (.ref 1), some (.int x1), some (.int x2), some (.int x3)], [.long (-1)], hC0, 0, 0)) rfl ?_
  exact mEnds.ret rfl
set_option maxRecDepth 100000 in
theorem m25_FT (x1 x2 x3 : Int32) (f0 : decide (x1 < 0) = false) (f1 : decide (10 < x1) = true) : ∃ hs', mEnds [] 20 167 (mentry 167 [.ref 1, .int x1, .int x2, .int x3] hM0) (some (.long (-1)), hs', 0, 0) := by
  refine ⟨hM0, ?_⟩
  refine mEnds.steps 4 (q' := (6, [some (.ref 1), some (.int x1), some (.int x2), some (.int x3)], [.long 10, .long 0, .long x1.toInt64], hM0, 0, 0)) rfl ?_
  refine mEnds.call (d := 19) (y' := 111) (as := [.long x1.toInt64, .long 0, .long 10]) (q' := (9, [some (.ref 1), some (.int x1), some (.int x2), some (.int x3)], [], hM0, 0, 0)) (v := some (.int 0)) (hs' := hM0) (c' := 0) (s' := 0) rfl rfl ?_ ?_
  · refine mEnds.steps 3 (q' := (3, [some (.long x1.toInt64), none, some (.long 0), none, some (.long 10), none], [.int (lg_cmp x1.toInt64 0)], hM0, 0, 0)) rfl ?_
    refine mEnds.brF (q' := (6, [some (.long x1.toInt64), none, some (.long 0), none, some (.long 10), none], [], hM0, 0, 0)) rfl (lgc_lt (c := 0) (by decide) f0) rfl ?_
    refine mEnds.steps 3 (q' := (10, [some (.long x1.toInt64), none, some (.long 0), none, some (.long 10), none], [.int (lg_cmp x1.toInt64 10)], hM0, 0, 0)) rfl ?_
    refine mEnds.brT (q' := (17, [some (.long x1.toInt64), none, some (.long 0), none, some (.long 10), none], [], hM0, 0, 0)) rfl (lgc_gt (c := 10) (by decide) f1) rfl ?_
    refine mEnds.steps 1 (q' := (18, [some (.long x1.toInt64), none, some (.long 0), none, some (.long 10), none], [.int 0], hM0, 0, 0)) rfl ?_
    exact mEnds.ret rfl
  show mEnds [] 20 167 (9, [some (.ref 1), some (.int x1), some (.int x2), some (.int x3)], [.int 0], hM0, 0, 0) _
  refine mEnds.steps 2 (q' := (50, [some (.ref 1), some (.int x1), some (.int x2), some (.int x3)], [.long (-1)], hM0, 0, 0)) rfl ?_
  exact mEnds.ret rfl
set_option maxRecDepth 100000 in
theorem c25_FFT (x1 x2 x3 : Int32) (f0 : decide (x1 < 0) = false) (f1 : decide (10 < x1) = false) (f2 : decide (x2 < 0) = true) : ∃ hs', mEnds [] 20 82 (mentry 82 [.ref 1, .int x1, .int x2, .int x3] hC0) (some (.long (-1)), hs', 0, 0) := by
  refine ⟨hC0, ?_⟩
  refine mEnds.steps 3 (q' := (3, [some (.ref 1), some (.int x1), some (.int x2), some (.int x3)], [.int x3, .int x2, .int x1], hC0, 0, 0)) rfl ?_
  refine mEnds.call (d := 19) (y' := 83) (as := [.int x1, .int x2, .int x3]) (q' := (6, [some (.ref 1), some (.int x1), some (.int x2), some (.int x3)], [], hC0, 0, 0)) (v := some (.int 0)) (hs' := hC0) (c' := 0) (s' := 0) rfl rfl ?_ ?_
  · refine mEnds.steps 3 (q' := (4, [some (.int x1), some (.int x2), some (.int x3)], [.int 10, .int 0, .int x1], hC0, 0, 0)) rfl ?_
    refine mEnds.call (d := 18) (y' := 105) (as := [.int x1, .int 0, .int 10]) (q' := (7, [some (.int x1), some (.int x2), some (.int x3)], [], hC0, 0, 0)) (v := some (.int 1)) (hs' := hC0) (c' := 0) (s' := 0) rfl rfl ?_ ?_
    · refine mEnds.steps 2 (q' := (2, [some (.int x1), some (.int 0), some (.int 10)], [.int 0, .int x1], hC0, 0, 0)) rfl ?_
      refine mEnds.brF (q' := (5, [some (.int x1), some (.int 0), some (.int 10)], [], hC0, 0, 0)) rfl f0 rfl ?_
      refine mEnds.steps 2 (q' := (7, [some (.int x1), some (.int 0), some (.int 10)], [.int 10, .int x1], hC0, 0, 0)) rfl ?_
      refine mEnds.brF (q' := (10, [some (.int x1), some (.int 0), some (.int 10)], [], hC0, 0, 0)) rfl f1 rfl ?_
      refine mEnds.steps 2 (q' := (15, [some (.int x1), some (.int 0), some (.int 10)], [.int 1], hC0, 0, 0)) rfl ?_
      exact mEnds.ret rfl
    show mEnds [] 19 83 (7, [some (.int x1), some (.int x2), some (.int x3)], [.int 1], hC0, 0, 0) _
    refine mEnds.steps 4 (q' := (14, [some (.int x1), some (.int x2), some (.int x3)], [.int 8, .int 0, .int x2], hC0, 0, 0)) rfl ?_
    refine mEnds.call (d := 18) (y' := 105) (as := [.int x2, .int 0, .int 8]) (q' := (17, [some (.int x1), some (.int x2), some (.int x3)], [], hC0, 0, 0)) (v := some (.int 0)) (hs' := hC0) (c' := 0) (s' := 0) rfl rfl ?_ ?_
    · refine mEnds.steps 2 (q' := (2, [some (.int x2), some (.int 0), some (.int 8)], [.int 0, .int x2], hC0, 0, 0)) rfl ?_
      refine mEnds.brT (q' := (14, [some (.int x2), some (.int 0), some (.int 8)], [], hC0, 0, 0)) rfl f2 rfl ?_
      refine mEnds.steps 1 (q' := (15, [some (.int x2), some (.int 0), some (.int 8)], [.int 0], hC0, 0, 0)) rfl ?_
      exact mEnds.ret rfl
    show mEnds [] 19 83 (17, [some (.int x1), some (.int x2), some (.int x3)], [.int 0], hC0, 0, 0) _
    refine mEnds.steps 2 (q' := (34, [some (.int x1), some (.int x2), some (.int x3)], [.int 0], hC0, 0, 0)) rfl ?_
    exact mEnds.ret rfl
  show mEnds [] 20 82 (6, [some (.ref 1), some (.int x1), some (.int x2), some (.int x3)], [.int 0], hC0, 0, 0) _
  refine mEnds.steps 2 (q' := (12, [some (.ref 1), some (.int x1), some (.int x2), some (.int x3)], [.long (-1)], hC0, 0, 0)) rfl ?_
  exact mEnds.ret rfl
set_option maxRecDepth 100000 in
theorem m25_FFT (x1 x2 x3 : Int32) (f0 : decide (x1 < 0) = false) (f1 : decide (10 < x1) = false) (f2 : decide (x2 < 0) = true) : ∃ hs', mEnds [] 20 167 (mentry 167 [.ref 1, .int x1, .int x2, .int x3] hM0) (some (.long (-1)), hs', 0, 0) := by
  refine ⟨hM0, ?_⟩
  refine mEnds.steps 4 (q' := (6, [some (.ref 1), some (.int x1), some (.int x2), some (.int x3)], [.long 10, .long 0, .long x1.toInt64], hM0, 0, 0)) rfl ?_
  refine mEnds.call (d := 19) (y' := 111) (as := [.long x1.toInt64, .long 0, .long 10]) (q' := (9, [some (.ref 1), some (.int x1), some (.int x2), some (.int x3)], [], hM0, 0, 0)) (v := some (.int 1)) (hs' := hM0) (c' := 0) (s' := 0) rfl rfl ?_ ?_
  · refine mEnds.steps 3 (q' := (3, [some (.long x1.toInt64), none, some (.long 0), none, some (.long 10), none], [.int (lg_cmp x1.toInt64 0)], hM0, 0, 0)) rfl ?_
    refine mEnds.brF (q' := (6, [some (.long x1.toInt64), none, some (.long 0), none, some (.long 10), none], [], hM0, 0, 0)) rfl (lgc_lt (c := 0) (by decide) f0) rfl ?_
    refine mEnds.steps 3 (q' := (10, [some (.long x1.toInt64), none, some (.long 0), none, some (.long 10), none], [.int (lg_cmp x1.toInt64 10)], hM0, 0, 0)) rfl ?_
    refine mEnds.brF (q' := (13, [some (.long x1.toInt64), none, some (.long 0), none, some (.long 10), none], [], hM0, 0, 0)) rfl (lgc_gt (c := 10) (by decide) f1) rfl ?_
    refine mEnds.steps 2 (q' := (18, [some (.long x1.toInt64), none, some (.long 0), none, some (.long 10), none], [.int 1], hM0, 0, 0)) rfl ?_
    exact mEnds.ret rfl
  show mEnds [] 20 167 (9, [some (.ref 1), some (.int x1), some (.int x2), some (.int x3)], [.int 1], hM0, 0, 0) _
  refine mEnds.steps 5 (q' := (18, [some (.ref 1), some (.int x1), some (.int x2), some (.int x3)], [.long 8, .long 0, .long x2.toInt64], hM0, 0, 0)) rfl ?_
  refine mEnds.call (d := 19) (y' := 111) (as := [.long x2.toInt64, .long 0, .long 8]) (q' := (21, [some (.ref 1), some (.int x1), some (.int x2), some (.int x3)], [], hM0, 0, 0)) (v := some (.int 0)) (hs' := hM0) (c' := 0) (s' := 0) rfl rfl ?_ ?_
  · refine mEnds.steps 3 (q' := (3, [some (.long x2.toInt64), none, some (.long 0), none, some (.long 8), none], [.int (lg_cmp x2.toInt64 0)], hM0, 0, 0)) rfl ?_
    refine mEnds.brT (q' := (17, [some (.long x2.toInt64), none, some (.long 0), none, some (.long 8), none], [], hM0, 0, 0)) rfl (lgc_lt (c := 0) (by decide) f2) rfl ?_
    refine mEnds.steps 1 (q' := (18, [some (.long x2.toInt64), none, some (.long 0), none, some (.long 8), none], [.int 0], hM0, 0, 0)) rfl ?_
    exact mEnds.ret rfl
  show mEnds [] 20 167 (21, [some (.ref 1), some (.int x1), some (.int x2), some (.int x3)], [.int 0], hM0, 0, 0) _
  refine mEnds.steps 2 (q' := (50, [some (.ref 1), some (.int x1), some (.int x2), some (.int x3)], [.long (-1)], hM0, 0, 0)) rfl ?_
  exact mEnds.ret rfl
set_option maxRecDepth 100000 in
theorem c25_FFFT (x1 x2 x3 : Int32) (f0 : decide (x1 < 0) = false) (f1 : decide (10 < x1) = false) (f2 : decide (x2 < 0) = false) (f3 : decide (8 < x2) = true) : ∃ hs', mEnds [] 20 82 (mentry 82 [.ref 1, .int x1, .int x2, .int x3] hC0) (some (.long (-1)), hs', 0, 0) := by
  refine ⟨hC0, ?_⟩
  refine mEnds.steps 3 (q' := (3, [some (.ref 1), some (.int x1), some (.int x2), some (.int x3)], [.int x3, .int x2, .int x1], hC0, 0, 0)) rfl ?_
  refine mEnds.call (d := 19) (y' := 83) (as := [.int x1, .int x2, .int x3]) (q' := (6, [some (.ref 1), some (.int x1), some (.int x2), some (.int x3)], [], hC0, 0, 0)) (v := some (.int 0)) (hs' := hC0) (c' := 0) (s' := 0) rfl rfl ?_ ?_
  · refine mEnds.steps 3 (q' := (4, [some (.int x1), some (.int x2), some (.int x3)], [.int 10, .int 0, .int x1], hC0, 0, 0)) rfl ?_
    refine mEnds.call (d := 18) (y' := 105) (as := [.int x1, .int 0, .int 10]) (q' := (7, [some (.int x1), some (.int x2), some (.int x3)], [], hC0, 0, 0)) (v := some (.int 1)) (hs' := hC0) (c' := 0) (s' := 0) rfl rfl ?_ ?_
    · refine mEnds.steps 2 (q' := (2, [some (.int x1), some (.int 0), some (.int 10)], [.int 0, .int x1], hC0, 0, 0)) rfl ?_
      refine mEnds.brF (q' := (5, [some (.int x1), some (.int 0), some (.int 10)], [], hC0, 0, 0)) rfl f0 rfl ?_
      refine mEnds.steps 2 (q' := (7, [some (.int x1), some (.int 0), some (.int 10)], [.int 10, .int x1], hC0, 0, 0)) rfl ?_
      refine mEnds.brF (q' := (10, [some (.int x1), some (.int 0), some (.int 10)], [], hC0, 0, 0)) rfl f1 rfl ?_
      refine mEnds.steps 2 (q' := (15, [some (.int x1), some (.int 0), some (.int 10)], [.int 1], hC0, 0, 0)) rfl ?_
      exact mEnds.ret rfl
    show mEnds [] 19 83 (7, [some (.int x1), some (.int x2), some (.int x3)], [.int 1], hC0, 0, 0) _
    refine mEnds.steps 4 (q' := (14, [some (.int x1), some (.int x2), some (.int x3)], [.int 8, .int 0, .int x2], hC0, 0, 0)) rfl ?_
    refine mEnds.call (d := 18) (y' := 105) (as := [.int x2, .int 0, .int 8]) (q' := (17, [some (.int x1), some (.int x2), some (.int x3)], [], hC0, 0, 0)) (v := some (.int 0)) (hs' := hC0) (c' := 0) (s' := 0) rfl rfl ?_ ?_
    · refine mEnds.steps 2 (q' := (2, [some (.int x2), some (.int 0), some (.int 8)], [.int 0, .int x2], hC0, 0, 0)) rfl ?_
      refine mEnds.brF (q' := (5, [some (.int x2), some (.int 0), some (.int 8)], [], hC0, 0, 0)) rfl f2 rfl ?_
      refine mEnds.steps 2 (q' := (7, [some (.int x2), some (.int 0), some (.int 8)], [.int 8, .int x2], hC0, 0, 0)) rfl ?_
      refine mEnds.brT (q' := (14, [some (.int x2), some (.int 0), some (.int 8)], [], hC0, 0, 0)) rfl f3 rfl ?_
      refine mEnds.steps 1 (q' := (15, [some (.int x2), some (.int 0), some (.int 8)], [.int 0], hC0, 0, 0)) rfl ?_
      exact mEnds.ret rfl
    show mEnds [] 19 83 (17, [some (.int x1), some (.int x2), some (.int x3)], [.int 0], hC0, 0, 0) _
    refine mEnds.steps 2 (q' := (34, [some (.int x1), some (.int x2), some (.int x3)], [.int 0], hC0, 0, 0)) rfl ?_
    exact mEnds.ret rfl
  show mEnds [] 20 82 (6, [some (.ref 1), some (.int x1), some (.int x2), some (.int x3)], [.int 0], hC0, 0, 0) _
  refine mEnds.steps 2 (q' := (12, [some (.ref 1), some (.int x1), some (.int x2), some (.int x3)], [.long (-1)], hC0, 0, 0)) rfl ?_
  exact mEnds.ret rfl
set_option maxRecDepth 100000 in
theorem m25_FFFT (x1 x2 x3 : Int32) (f0 : decide (x1 < 0) = false) (f1 : decide (10 < x1) = false) (f2 : decide (x2 < 0) = false) (f3 : decide (8 < x2) = true) : ∃ hs', mEnds [] 20 167 (mentry 167 [.ref 1, .int x1, .int x2, .int x3] hM0) (some (.long (-1)), hs', 0, 0) := by
  refine ⟨hM0, ?_⟩
  refine mEnds.steps 4 (q' := (6, [some (.ref 1), some (.int x1), some (.int x2), some (.int x3)], [.long 10, .long 0, .long x1.toInt64], hM0, 0, 0)) rfl ?_
  refine mEnds.call (d := 19) (y' := 111) (as := [.long x1.toInt64, .long 0, .long 10]) (q' := (9, [some (.ref 1), some (.int x1), some (.int x2), some (.int x3)], [], hM0, 0, 0)) (v := some (.int 1)) (hs' := hM0) (c' := 0) (s' := 0) rfl rfl ?_ ?_
  · refine mEnds.steps 3 (q' := (3, [some (.long x1.toInt64), none, some (.long 0), none, some (.long 10), none], [.int (lg_cmp x1.toInt64 0)], hM0, 0, 0)) rfl ?_
    refine mEnds.brF (q' := (6, [some (.long x1.toInt64), none, some (.long 0), none, some (.long 10), none], [], hM0, 0, 0)) rfl (lgc_lt (c := 0) (by decide) f0) rfl ?_
    refine mEnds.steps 3 (q' := (10, [some (.long x1.toInt64), none, some (.long 0), none, some (.long 10), none], [.int (lg_cmp x1.toInt64 10)], hM0, 0, 0)) rfl ?_
    refine mEnds.brF (q' := (13, [some (.long x1.toInt64), none, some (.long 0), none, some (.long 10), none], [], hM0, 0, 0)) rfl (lgc_gt (c := 10) (by decide) f1) rfl ?_
    refine mEnds.steps 2 (q' := (18, [some (.long x1.toInt64), none, some (.long 0), none, some (.long 10), none], [.int 1], hM0, 0, 0)) rfl ?_
    exact mEnds.ret rfl
  show mEnds [] 20 167 (9, [some (.ref 1), some (.int x1), some (.int x2), some (.int x3)], [.int 1], hM0, 0, 0) _
  refine mEnds.steps 5 (q' := (18, [some (.ref 1), some (.int x1), some (.int x2), some (.int x3)], [.long 8, .long 0, .long x2.toInt64], hM0, 0, 0)) rfl ?_
  refine mEnds.call (d := 19) (y' := 111) (as := [.long x2.toInt64, .long 0, .long 8]) (q' := (21, [some (.ref 1), some (.int x1), some (.int x2), some (.int x3)], [], hM0, 0, 0)) (v := some (.int 0)) (hs' := hM0) (c' := 0) (s' := 0) rfl rfl ?_ ?_
  · refine mEnds.steps 3 (q' := (3, [some (.long x2.toInt64), none, some (.long 0), none, some (.long 8), none], [.int (lg_cmp x2.toInt64 0)], hM0, 0, 0)) rfl ?_
    refine mEnds.brF (q' := (6, [some (.long x2.toInt64), none, some (.long 0), none, some (.long 8), none], [], hM0, 0, 0)) rfl (lgc_lt (c := 0) (by decide) f2) rfl ?_
    refine mEnds.steps 3 (q' := (10, [some (.long x2.toInt64), none, some (.long 0), none, some (.long 8), none], [.int (lg_cmp x2.toInt64 8)], hM0, 0, 0)) rfl ?_
    refine mEnds.brT (q' := (17, [some (.long x2.toInt64), none, some (.long 0), none, some (.long 8), none], [], hM0, 0, 0)) rfl (lgc_gt (c := 8) (by decide) f3) rfl ?_
    refine mEnds.steps 1 (q' := (18, [some (.long x2.toInt64), none, some (.long 0), none, some (.long 8), none], [.int 0], hM0, 0, 0)) rfl ?_
    exact mEnds.ret rfl
  show mEnds [] 20 167 (21, [some (.ref 1), some (.int x1), some (.int x2), some (.int x3)], [.int 0], hM0, 0, 0) _
  refine mEnds.steps 2 (q' := (50, [some (.ref 1), some (.int x1), some (.int x2), some (.int x3)], [.long (-1)], hM0, 0, 0)) rfl ?_
  exact mEnds.ret rfl
set_option maxRecDepth 100000 in
theorem c25_FFFFT (x1 x2 x3 : Int32) (f0 : decide (x1 < 0) = false) (f1 : decide (10 < x1) = false) (f2 : decide (x2 < 0) = false) (f3 : decide (8 < x2) = false) (f4 : decide (x3 < 0) = true) : ∃ hs', mEnds [] 20 82 (mentry 82 [.ref 1, .int x1, .int x2, .int x3] hC0) (some (.long (-1)), hs', 0, 0) := by
  refine ⟨hC0, ?_⟩
  refine mEnds.steps 3 (q' := (3, [some (.ref 1), some (.int x1), some (.int x2), some (.int x3)], [.int x3, .int x2, .int x1], hC0, 0, 0)) rfl ?_
  refine mEnds.call (d := 19) (y' := 83) (as := [.int x1, .int x2, .int x3]) (q' := (6, [some (.ref 1), some (.int x1), some (.int x2), some (.int x3)], [], hC0, 0, 0)) (v := some (.int 0)) (hs' := hC0) (c' := 0) (s' := 0) rfl rfl ?_ ?_
  · refine mEnds.steps 3 (q' := (4, [some (.int x1), some (.int x2), some (.int x3)], [.int 10, .int 0, .int x1], hC0, 0, 0)) rfl ?_
    refine mEnds.call (d := 18) (y' := 105) (as := [.int x1, .int 0, .int 10]) (q' := (7, [some (.int x1), some (.int x2), some (.int x3)], [], hC0, 0, 0)) (v := some (.int 1)) (hs' := hC0) (c' := 0) (s' := 0) rfl rfl ?_ ?_
    · refine mEnds.steps 2 (q' := (2, [some (.int x1), some (.int 0), some (.int 10)], [.int 0, .int x1], hC0, 0, 0)) rfl ?_
      refine mEnds.brF (q' := (5, [some (.int x1), some (.int 0), some (.int 10)], [], hC0, 0, 0)) rfl f0 rfl ?_
      refine mEnds.steps 2 (q' := (7, [some (.int x1), some (.int 0), some (.int 10)], [.int 10, .int x1], hC0, 0, 0)) rfl ?_
      refine mEnds.brF (q' := (10, [some (.int x1), some (.int 0), some (.int 10)], [], hC0, 0, 0)) rfl f1 rfl ?_
      refine mEnds.steps 2 (q' := (15, [some (.int x1), some (.int 0), some (.int 10)], [.int 1], hC0, 0, 0)) rfl ?_
      exact mEnds.ret rfl
    show mEnds [] 19 83 (7, [some (.int x1), some (.int x2), some (.int x3)], [.int 1], hC0, 0, 0) _
    refine mEnds.steps 4 (q' := (14, [some (.int x1), some (.int x2), some (.int x3)], [.int 8, .int 0, .int x2], hC0, 0, 0)) rfl ?_
    refine mEnds.call (d := 18) (y' := 105) (as := [.int x2, .int 0, .int 8]) (q' := (17, [some (.int x1), some (.int x2), some (.int x3)], [], hC0, 0, 0)) (v := some (.int 1)) (hs' := hC0) (c' := 0) (s' := 0) rfl rfl ?_ ?_
    · refine mEnds.steps 2 (q' := (2, [some (.int x2), some (.int 0), some (.int 8)], [.int 0, .int x2], hC0, 0, 0)) rfl ?_
      refine mEnds.brF (q' := (5, [some (.int x2), some (.int 0), some (.int 8)], [], hC0, 0, 0)) rfl f2 rfl ?_
      refine mEnds.steps 2 (q' := (7, [some (.int x2), some (.int 0), some (.int 8)], [.int 8, .int x2], hC0, 0, 0)) rfl ?_
      refine mEnds.brF (q' := (10, [some (.int x2), some (.int 0), some (.int 8)], [], hC0, 0, 0)) rfl f3 rfl ?_
      refine mEnds.steps 2 (q' := (15, [some (.int x2), some (.int 0), some (.int 8)], [.int 1], hC0, 0, 0)) rfl ?_
      exact mEnds.ret rfl
    show mEnds [] 19 83 (17, [some (.int x1), some (.int x2), some (.int x3)], [.int 1], hC0, 0, 0) _
    refine mEnds.steps 4 (q' := (23, [some (.int x1), some (.int x2), some (.int x3)], [.int 1, .int 0, .int x3], hC0, 0, 0)) rfl ?_
    refine mEnds.call (d := 18) (y' := 105) (as := [.int x3, .int 0, .int 1]) (q' := (26, [some (.int x1), some (.int x2), some (.int x3)], [], hC0, 0, 0)) (v := some (.int 0)) (hs' := hC0) (c' := 0) (s' := 0) rfl rfl ?_ ?_
    · refine mEnds.steps 2 (q' := (2, [some (.int x3), some (.int 0), some (.int 1)], [.int 0, .int x3], hC0, 0, 0)) rfl ?_
      refine mEnds.brT (q' := (14, [some (.int x3), some (.int 0), some (.int 1)], [], hC0, 0, 0)) rfl f4 rfl ?_
      refine mEnds.steps 1 (q' := (15, [some (.int x3), some (.int 0), some (.int 1)], [.int 0], hC0, 0, 0)) rfl ?_
      exact mEnds.ret rfl
    show mEnds [] 19 83 (26, [some (.int x1), some (.int x2), some (.int x3)], [.int 0], hC0, 0, 0) _
    refine mEnds.steps 2 (q' := (34, [some (.int x1), some (.int x2), some (.int x3)], [.int 0], hC0, 0, 0)) rfl ?_
    exact mEnds.ret rfl
  show mEnds [] 20 82 (6, [some (.ref 1), some (.int x1), some (.int x2), some (.int x3)], [.int 0], hC0, 0, 0) _
  refine mEnds.steps 2 (q' := (12, [some (.ref 1), some (.int x1), some (.int x2), some (.int x3)], [.long (-1)], hC0, 0, 0)) rfl ?_
  exact mEnds.ret rfl
set_option maxRecDepth 100000 in
theorem m25_FFFFT (x1 x2 x3 : Int32) (f0 : decide (x1 < 0) = false) (f1 : decide (10 < x1) = false) (f2 : decide (x2 < 0) = false) (f3 : decide (8 < x2) = false) (f4 : decide (x3 < 0) = true) : ∃ hs', mEnds [] 20 167 (mentry 167 [.ref 1, .int x1, .int x2, .int x3] hM0) (some (.long (-1)), hs', 0, 0) := by
  refine ⟨hM0, ?_⟩
  refine mEnds.steps 4 (q' := (6, [some (.ref 1), some (.int x1), some (.int x2), some (.int x3)], [.long 10, .long 0, .long x1.toInt64], hM0, 0, 0)) rfl ?_
  refine mEnds.call (d := 19) (y' := 111) (as := [.long x1.toInt64, .long 0, .long 10]) (q' := (9, [some (.ref 1), some (.int x1), some (.int x2), some (.int x3)], [], hM0, 0, 0)) (v := some (.int 1)) (hs' := hM0) (c' := 0) (s' := 0) rfl rfl ?_ ?_
  · refine mEnds.steps 3 (q' := (3, [some (.long x1.toInt64), none, some (.long 0), none, some (.long 10), none], [.int (lg_cmp x1.toInt64 0)], hM0, 0, 0)) rfl ?_
    refine mEnds.brF (q' := (6, [some (.long x1.toInt64), none, some (.long 0), none, some (.long 10), none], [], hM0, 0, 0)) rfl (lgc_lt (c := 0) (by decide) f0) rfl ?_
    refine mEnds.steps 3 (q' := (10, [some (.long x1.toInt64), none, some (.long 0), none, some (.long 10), none], [.int (lg_cmp x1.toInt64 10)], hM0, 0, 0)) rfl ?_
    refine mEnds.brF (q' := (13, [some (.long x1.toInt64), none, some (.long 0), none, some (.long 10), none], [], hM0, 0, 0)) rfl (lgc_gt (c := 10) (by decide) f1) rfl ?_
    refine mEnds.steps 2 (q' := (18, [some (.long x1.toInt64), none, some (.long 0), none, some (.long 10), none], [.int 1], hM0, 0, 0)) rfl ?_
    exact mEnds.ret rfl
  show mEnds [] 20 167 (9, [some (.ref 1), some (.int x1), some (.int x2), some (.int x3)], [.int 1], hM0, 0, 0) _
  refine mEnds.steps 5 (q' := (18, [some (.ref 1), some (.int x1), some (.int x2), some (.int x3)], [.long 8, .long 0, .long x2.toInt64], hM0, 0, 0)) rfl ?_
  refine mEnds.call (d := 19) (y' := 111) (as := [.long x2.toInt64, .long 0, .long 8]) (q' := (21, [some (.ref 1), some (.int x1), some (.int x2), some (.int x3)], [], hM0, 0, 0)) (v := some (.int 1)) (hs' := hM0) (c' := 0) (s' := 0) rfl rfl ?_ ?_
  · refine mEnds.steps 3 (q' := (3, [some (.long x2.toInt64), none, some (.long 0), none, some (.long 8), none], [.int (lg_cmp x2.toInt64 0)], hM0, 0, 0)) rfl ?_
    refine mEnds.brF (q' := (6, [some (.long x2.toInt64), none, some (.long 0), none, some (.long 8), none], [], hM0, 0, 0)) rfl (lgc_lt (c := 0) (by decide) f2) rfl ?_
    refine mEnds.steps 3 (q' := (10, [some (.long x2.toInt64), none, some (.long 0), none, some (.long 8), none], [.int (lg_cmp x2.toInt64 8)], hM0, 0, 0)) rfl ?_
    refine mEnds.brF (q' := (13, [some (.long x2.toInt64), none, some (.long 0), none, some (.long 8), none], [], hM0, 0, 0)) rfl (lgc_gt (c := 8) (by decide) f3) rfl ?_
    refine mEnds.steps 2 (q' := (18, [some (.long x2.toInt64), none, some (.long 0), none, some (.long 8), none], [.int 1], hM0, 0, 0)) rfl ?_
    exact mEnds.ret rfl
  show mEnds [] 20 167 (21, [some (.ref 1), some (.int x1), some (.int x2), some (.int x3)], [.int 1], hM0, 0, 0) _
  refine mEnds.steps 5 (q' := (28, [some (.ref 1), some (.int x1), some (.int x2), some (.int x3)], [.long 1, .long 0, .long x3.toInt64], hM0, 0, 0)) rfl ?_
  refine mEnds.call (d := 19) (y' := 111) (as := [.long x3.toInt64, .long 0, .long 1]) (q' := (31, [some (.ref 1), some (.int x1), some (.int x2), some (.int x3)], [], hM0, 0, 0)) (v := some (.int 0)) (hs' := hM0) (c' := 0) (s' := 0) rfl rfl ?_ ?_
  · refine mEnds.steps 3 (q' := (3, [some (.long x3.toInt64), none, some (.long 0), none, some (.long 1), none], [.int (lg_cmp x3.toInt64 0)], hM0, 0, 0)) rfl ?_
    refine mEnds.brT (q' := (17, [some (.long x3.toInt64), none, some (.long 0), none, some (.long 1), none], [], hM0, 0, 0)) rfl (lgc_lt (c := 0) (by decide) f4) rfl ?_
    refine mEnds.steps 1 (q' := (18, [some (.long x3.toInt64), none, some (.long 0), none, some (.long 1), none], [.int 0], hM0, 0, 0)) rfl ?_
    exact mEnds.ret rfl
  show mEnds [] 20 167 (31, [some (.ref 1), some (.int x1), some (.int x2), some (.int x3)], [.int 0], hM0, 0, 0) _
  refine mEnds.steps 2 (q' := (50, [some (.ref 1), some (.int x1), some (.int x2), some (.int x3)], [.long (-1)], hM0, 0, 0)) rfl ?_
  exact mEnds.ret rfl
set_option maxRecDepth 100000 in
theorem c25_FFFFFT (x1 x2 x3 : Int32) (f0 : decide (x1 < 0) = false) (f1 : decide (10 < x1) = false) (f2 : decide (x2 < 0) = false) (f3 : decide (8 < x2) = false) (f4 : decide (x3 < 0) = false) (f5 : decide (1 < x3) = true) : ∃ hs', mEnds [] 20 82 (mentry 82 [.ref 1, .int x1, .int x2, .int x3] hC0) (some (.long (-1)), hs', 0, 0) := by
  refine ⟨hC0, ?_⟩
  refine mEnds.steps 3 (q' := (3, [some (.ref 1), some (.int x1), some (.int x2), some (.int x3)], [.int x3, .int x2, .int x1], hC0, 0, 0)) rfl ?_
  refine mEnds.call (d := 19) (y' := 83) (as := [.int x1, .int x2, .int x3]) (q' := (6, [some (.ref 1), some (.int x1), some (.int x2), some (.int x3)], [], hC0, 0, 0)) (v := some (.int 0)) (hs' := hC0) (c' := 0) (s' := 0) rfl rfl ?_ ?_
  · refine mEnds.steps 3 (q' := (4, [some (.int x1), some (.int x2), some (.int x3)], [.int 10, .int 0, .int x1], hC0, 0, 0)) rfl ?_
    refine mEnds.call (d := 18) (y' := 105) (as := [.int x1, .int 0, .int 10]) (q' := (7, [some (.int x1), some (.int x2), some (.int x3)], [], hC0, 0, 0)) (v := some (.int 1)) (hs' := hC0) (c' := 0) (s' := 0) rfl rfl ?_ ?_
    · refine mEnds.steps 2 (q' := (2, [some (.int x1), some (.int 0), some (.int 10)], [.int 0, .int x1], hC0, 0, 0)) rfl ?_
      refine mEnds.brF (q' := (5, [some (.int x1), some (.int 0), some (.int 10)], [], hC0, 0, 0)) rfl f0 rfl ?_
      refine mEnds.steps 2 (q' := (7, [some (.int x1), some (.int 0), some (.int 10)], [.int 10, .int x1], hC0, 0, 0)) rfl ?_
      refine mEnds.brF (q' := (10, [some (.int x1), some (.int 0), some (.int 10)], [], hC0, 0, 0)) rfl f1 rfl ?_
      refine mEnds.steps 2 (q' := (15, [some (.int x1), some (.int 0), some (.int 10)], [.int 1], hC0, 0, 0)) rfl ?_
      exact mEnds.ret rfl
    show mEnds [] 19 83 (7, [some (.int x1), some (.int x2), some (.int x3)], [.int 1], hC0, 0, 0) _
    refine mEnds.steps 4 (q' := (14, [some (.int x1), some (.int x2), some (.int x3)], [.int 8, .int 0, .int x2], hC0, 0, 0)) rfl ?_
    refine mEnds.call (d := 18) (y' := 105) (as := [.int x2, .int 0, .int 8]) (q' := (17, [some (.int x1), some (.int x2), some (.int x3)], [], hC0, 0, 0)) (v := some (.int 1)) (hs' := hC0) (c' := 0) (s' := 0) rfl rfl ?_ ?_
    · refine mEnds.steps 2 (q' := (2, [some (.int x2), some (.int 0), some (.int 8)], [.int 0, .int x2], hC0, 0, 0)) rfl ?_
      refine mEnds.brF (q' := (5, [some (.int x2), some (.int 0), some (.int 8)], [], hC0, 0, 0)) rfl f2 rfl ?_
      refine mEnds.steps 2 (q' := (7, [some (.int x2), some (.int 0), some (.int 8)], [.int 8, .int x2], hC0, 0, 0)) rfl ?_
      refine mEnds.brF (q' := (10, [some (.int x2), some (.int 0), some (.int 8)], [], hC0, 0, 0)) rfl f3 rfl ?_
      refine mEnds.steps 2 (q' := (15, [some (.int x2), some (.int 0), some (.int 8)], [.int 1], hC0, 0, 0)) rfl ?_
      exact mEnds.ret rfl
    show mEnds [] 19 83 (17, [some (.int x1), some (.int x2), some (.int x3)], [.int 1], hC0, 0, 0) _
    refine mEnds.steps 4 (q' := (23, [some (.int x1), some (.int x2), some (.int x3)], [.int 1, .int 0, .int x3], hC0, 0, 0)) rfl ?_
    refine mEnds.call (d := 18) (y' := 105) (as := [.int x3, .int 0, .int 1]) (q' := (26, [some (.int x1), some (.int x2), some (.int x3)], [], hC0, 0, 0)) (v := some (.int 0)) (hs' := hC0) (c' := 0) (s' := 0) rfl rfl ?_ ?_
    · refine mEnds.steps 2 (q' := (2, [some (.int x3), some (.int 0), some (.int 1)], [.int 0, .int x3], hC0, 0, 0)) rfl ?_
      refine mEnds.brF (q' := (5, [some (.int x3), some (.int 0), some (.int 1)], [], hC0, 0, 0)) rfl f4 rfl ?_
      refine mEnds.steps 2 (q' := (7, [some (.int x3), some (.int 0), some (.int 1)], [.int 1, .int x3], hC0, 0, 0)) rfl ?_
      refine mEnds.brT (q' := (14, [some (.int x3), some (.int 0), some (.int 1)], [], hC0, 0, 0)) rfl f5 rfl ?_
      refine mEnds.steps 1 (q' := (15, [some (.int x3), some (.int 0), some (.int 1)], [.int 0], hC0, 0, 0)) rfl ?_
      exact mEnds.ret rfl
    show mEnds [] 19 83 (26, [some (.int x1), some (.int x2), some (.int x3)], [.int 0], hC0, 0, 0) _
    refine mEnds.steps 2 (q' := (34, [some (.int x1), some (.int x2), some (.int x3)], [.int 0], hC0, 0, 0)) rfl ?_
    exact mEnds.ret rfl
  show mEnds [] 20 82 (6, [some (.ref 1), some (.int x1), some (.int x2), some (.int x3)], [.int 0], hC0, 0, 0) _
  refine mEnds.steps 2 (q' := (12, [some (.ref 1), some (.int x1), some (.int x2), some (.int x3)], [.long (-1)], hC0, 0, 0)) rfl ?_
  exact mEnds.ret rfl
set_option maxRecDepth 100000 in
theorem m25_FFFFFT (x1 x2 x3 : Int32) (f0 : decide (x1 < 0) = false) (f1 : decide (10 < x1) = false) (f2 : decide (x2 < 0) = false) (f3 : decide (8 < x2) = false) (f4 : decide (x3 < 0) = false) (f5 : decide (1 < x3) = true) : ∃ hs', mEnds [] 20 167 (mentry 167 [.ref 1, .int x1, .int x2, .int x3] hM0) (some (.long (-1)), hs', 0, 0) := by
  refine ⟨hM0, ?_⟩
  refine mEnds.steps 4 (q' := (6, [some (.ref 1), some (.int x1), some (.int x2), some (.int x3)], [.long 10, .long 0, .long x1.toInt64], hM0, 0, 0)) rfl ?_
  refine mEnds.call (d := 19) (y' := 111) (as := [.long x1.toInt64, .long 0, .long 10]) (q' := (9, [some (.ref 1), some (.int x1), some (.int x2), some (.int x3)], [], hM0, 0, 0)) (v := some (.int 1)) (hs' := hM0) (c' := 0) (s' := 0) rfl rfl ?_ ?_
  · refine mEnds.steps 3 (q' := (3, [some (.long x1.toInt64), none, some (.long 0), none, some (.long 10), none], [.int (lg_cmp x1.toInt64 0)], hM0, 0, 0)) rfl ?_
    refine mEnds.brF (q' := (6, [some (.long x1.toInt64), none, some (.long 0), none, some (.long 10), none], [], hM0, 0, 0)) rfl (lgc_lt (c := 0) (by decide) f0) rfl ?_
    refine mEnds.steps 3 (q' := (10, [some (.long x1.toInt64), none, some (.long 0), none, some (.long 10), none], [.int (lg_cmp x1.toInt64 10)], hM0, 0, 0)) rfl ?_
    refine mEnds.brF (q' := (13, [some (.long x1.toInt64), none, some (.long 0), none, some (.long 10), none], [], hM0, 0, 0)) rfl (lgc_gt (c := 10) (by decide) f1) rfl ?_
    refine mEnds.steps 2 (q' := (18, [some (.long x1.toInt64), none, some (.long 0), none, some (.long 10), none], [.int 1], hM0, 0, 0)) rfl ?_
    exact mEnds.ret rfl
  show mEnds [] 20 167 (9, [some (.ref 1), some (.int x1), some (.int x2), some (.int x3)], [.int 1], hM0, 0, 0) _
  refine mEnds.steps 5 (q' := (18, [some (.ref 1), some (.int x1), some (.int x2), some (.int x3)], [.long 8, .long 0, .long x2.toInt64], hM0, 0, 0)) rfl ?_
  refine mEnds.call (d := 19) (y' := 111) (as := [.long x2.toInt64, .long 0, .long 8]) (q' := (21, [some (.ref 1), some (.int x1), some (.int x2), some (.int x3)], [], hM0, 0, 0)) (v := some (.int 1)) (hs' := hM0) (c' := 0) (s' := 0) rfl rfl ?_ ?_
  · refine mEnds.steps 3 (q' := (3, [some (.long x2.toInt64), none, some (.long 0), none, some (.long 8), none], [.int (lg_cmp x2.toInt64 0)], hM0, 0, 0)) rfl ?_
    refine mEnds.brF (q' := (6, [some (.long x2.toInt64), none, some (.long 0), none, some (.long 8), none], [], hM0, 0, 0)) rfl (lgc_lt (c := 0) (by decide) f2) rfl ?_
    refine mEnds.steps 3 (q' := (10, [some (.long x2.toInt64), none, some (.long 0), none, some (.long 8), none], [.int (lg_cmp x2.toInt64 8)], hM0, 0, 0)) rfl ?_
    refine mEnds.brF (q' := (13, [some (.long x2.toInt64), none, some (.long 0), none, some (.long 8), none], [], hM0, 0, 0)) rfl (lgc_gt (c := 8) (by decide) f3) rfl ?_
    refine mEnds.steps 2 (q' := (18, [some (.long x2.toInt64), none, some (.long 0), none, some (.long 8), none], [.int 1], hM0, 0, 0)) rfl ?_
    exact mEnds.ret rfl
  show mEnds [] 20 167 (21, [some (.ref 1), some (.int x1), some (.int x2), some (.int x3)], [.int 1], hM0, 0, 0) _
  refine mEnds.steps 5 (q' := (28, [some (.ref 1), some (.int x1), some (.int x2), some (.int x3)], [.long 1, .long 0, .long x3.toInt64], hM0, 0, 0)) rfl ?_
  refine mEnds.call (d := 19) (y' := 111) (as := [.long x3.toInt64, .long 0, .long 1]) (q' := (31, [some (.ref 1), some (.int x1), some (.int x2), some (.int x3)], [], hM0, 0, 0)) (v := some (.int 0)) (hs' := hM0) (c' := 0) (s' := 0) rfl rfl ?_ ?_
  · refine mEnds.steps 3 (q' := (3, [some (.long x3.toInt64), none, some (.long 0), none, some (.long 1), none], [.int (lg_cmp x3.toInt64 0)], hM0, 0, 0)) rfl ?_
    refine mEnds.brF (q' := (6, [some (.long x3.toInt64), none, some (.long 0), none, some (.long 1), none], [], hM0, 0, 0)) rfl (lgc_lt (c := 0) (by decide) f4) rfl ?_
    refine mEnds.steps 3 (q' := (10, [some (.long x3.toInt64), none, some (.long 0), none, some (.long 1), none], [.int (lg_cmp x3.toInt64 1)], hM0, 0, 0)) rfl ?_
    refine mEnds.brT (q' := (17, [some (.long x3.toInt64), none, some (.long 0), none, some (.long 1), none], [], hM0, 0, 0)) rfl (lgc_gt (c := 1) (by decide) f5) rfl ?_
    refine mEnds.steps 1 (q' := (18, [some (.long x3.toInt64), none, some (.long 0), none, some (.long 1), none], [.int 0], hM0, 0, 0)) rfl ?_
    exact mEnds.ret rfl
  show mEnds [] 20 167 (31, [some (.ref 1), some (.int x1), some (.int x2), some (.int x3)], [.int 0], hM0, 0, 0) _
  refine mEnds.steps 2 (q' := (50, [some (.ref 1), some (.int x1), some (.int x2), some (.int x3)], [.long (-1)], hM0, 0, 0)) rfl ?_
  exact mEnds.ret rfl
set_option maxRecDepth 100000 in
theorem c25_FFFFFFv0v0 (x1 : Int32) (f0 : decide (x1 < 0) = false) (f1 : decide (10 < x1) = false) : ∃ hs', mEnds [] 20 82 (mentry 82 [.ref 1, .int x1, .int 0, .int 0] hC0) (some (.long 0), hs', 0, 0) := by
  obtain ⟨M, -, -, hw⟩ := wg0 (N := 0) (m := 0) x1 (by decide) (by decide) (by decide) (by decide)
  rw [hT_0] at hw
  refine ⟨(hT M), ?_⟩
  refine mEnds.steps 3 (q' := (3, [some (.ref 1), some (.int x1), some (.int 0), some (.int 0)], [.int 0, .int 0, .int x1], hC0, 0, 0)) rfl ?_
  refine mEnds.call (d := 19) (y' := 83) (as := [.int x1, .int 0, .int 0]) (q' := (6, [some (.ref 1), some (.int x1), some (.int 0), some (.int 0)], [], hC0, 0, 0)) (v := some (.int 1)) (hs' := hC0) (c' := 0) (s' := 0) rfl rfl ?_ ?_
  · refine mEnds.steps 3 (q' := (4, [some (.int x1), some (.int 0), some (.int 0)], [.int 10, .int 0, .int x1], hC0, 0, 0)) rfl ?_
    refine mEnds.call (d := 18) (y' := 105) (as := [.int x1, .int 0, .int 10]) (q' := (7, [some (.int x1), some (.int 0), some (.int 0)], [], hC0, 0, 0)) (v := some (.int 1)) (hs' := hC0) (c' := 0) (s' := 0) rfl rfl ?_ ?_
    · refine mEnds.steps 2 (q' := (2, [some (.int x1), some (.int 0), some (.int 10)], [.int 0, .int x1], hC0, 0, 0)) rfl ?_
      refine mEnds.brF (q' := (5, [some (.int x1), some (.int 0), some (.int 10)], [], hC0, 0, 0)) rfl f0 rfl ?_
      refine mEnds.steps 2 (q' := (7, [some (.int x1), some (.int 0), some (.int 10)], [.int 10, .int x1], hC0, 0, 0)) rfl ?_
      refine mEnds.brF (q' := (10, [some (.int x1), some (.int 0), some (.int 10)], [], hC0, 0, 0)) rfl f1 rfl ?_
      refine mEnds.steps 2 (q' := (15, [some (.int x1), some (.int 0), some (.int 10)], [.int 1], hC0, 0, 0)) rfl ?_
      exact mEnds.ret rfl
    show mEnds [] 19 83 (7, [some (.int x1), some (.int 0), some (.int 0)], [.int 1], hC0, 0, 0) _
    refine mEnds.steps 4 (q' := (14, [some (.int x1), some (.int 0), some (.int 0)], [.int 8, .int 0, .int 0], hC0, 0, 0)) rfl ?_
    refine mEnds.call (d := 18) (y' := 105) (as := [.int 0, .int 0, .int 8]) (q' := (17, [some (.int x1), some (.int 0), some (.int 0)], [], hC0, 0, 0)) (v := some (.int 1)) (hs' := hC0) (c' := 0) (s' := 0) rfl rfl ?_ ?_
    · refine mEnds.steps 8 (q' := (15, [some (.int 0), some (.int 0), some (.int 8)], [.int 1], hC0, 0, 0)) rfl ?_
      exact mEnds.ret rfl
    show mEnds [] 19 83 (17, [some (.int x1), some (.int 0), some (.int 0)], [.int 1], hC0, 0, 0) _
    refine mEnds.steps 4 (q' := (23, [some (.int x1), some (.int 0), some (.int 0)], [.int 1, .int 0, .int 0], hC0, 0, 0)) rfl ?_
    refine mEnds.call (d := 18) (y' := 105) (as := [.int 0, .int 0, .int 1]) (q' := (26, [some (.int x1), some (.int 0), some (.int 0)], [], hC0, 0, 0)) (v := some (.int 1)) (hs' := hC0) (c' := 0) (s' := 0) rfl rfl ?_ ?_
    · refine mEnds.steps 8 (q' := (15, [some (.int 0), some (.int 0), some (.int 1)], [.int 1], hC0, 0, 0)) rfl ?_
      exact mEnds.ret rfl
    show mEnds [] 19 83 (26, [some (.int x1), some (.int 0), some (.int 0)], [.int 1], hC0, 0, 0) _
    refine mEnds.steps 3 (q' := (34, [some (.int x1), some (.int 0), some (.int 0)], [.int 1], hC0, 0, 0)) rfl ?_
    exact mEnds.ret rfl
  show mEnds [] 20 82 (6, [some (.ref 1), some (.int x1), some (.int 0), some (.int 0)], [.int 1], hC0, 0, 0) _
  refine mEnds.steps 1 (q' := (13, [some (.ref 1), some (.int x1), some (.int 0), some (.int 0)], [], hC0, 0, 0)) rfl ?_
  refine mEnds.steps 6 (q' := (23, [some (.ref 1), some (.int x1), some (.int 0), some (.int 0)], [.ref 2, .ref 44], hC0, 0, 0)) rfl ?_
  refine mEnds.call (d := 19) (y' := 7) (as := [.ref 44, .ref 2]) (q' := (26, [some (.ref 1), some (.int x1), some (.int 0), some (.int 0)], [], hC0, 0, 0)) (v := none) (hs' := hC0) (c' := 0) (s' := 0) rfl rfl (mEnds.deep cpM 9) ?_
  show mEnds [] 20 82 (26, [some (.ref 1), some (.int x1), some (.int 0), some (.int 0)], [], hC0, 0, 0) _
  refine mEnds.steps 6 (q' := (33, [some (.ref 1), some (.int x1), some (.int 0), some (.int 0)], [.int 0, .int (-4), .int x1, .int 0, .int 0, .ref 1], hC0, 0, 0)) rfl ?_
  refine mEnds.call (d := 19) (y' := 84) (as := [.ref 1, .int 0, .int 0, .int x1, .int (-4), .int 0]) (q' := (36, [some (.ref 1), some (.int x1), some (.int 0), some (.int 0)], [], hC0, 0, 0)) (v := some (.long 0)) (hs' := hT M) (c' := 0) (s' := 0) rfl rfl hw ?_
  show mEnds [] 20 82 (36, [some (.ref 1), some (.int x1), some (.int 0), some (.int 0)], [.long 0], hT M, 0, 0) _
  refine mEnds.steps 1 (q' := (37, [some (.ref 1), some (.int x1), some (.int 0), some (.int 0)], [.int 0, .long 0], hT M, 0, 0)) rfl ?_
  refine mEnds.call (d := 19) (y' := 86) (as := [.int 0]) (q' := (40, [some (.ref 1), some (.int x1), some (.int 0), some (.int 0)], [.long 0], hT M, 0, 0)) (v := some (.long 1)) (hs' := hT M) (c' := 0) (s' := 0) rfl rfl (mEnds.deep (te0 _) 1) ?_
  show mEnds [] 20 82 (40, [some (.ref 1), some (.int x1), some (.int 0), some (.int 0)], [.long 1, .long 0], hT M, 0, 0) _
  refine mEnds.steps 1 (q' := (41, [some (.ref 1), some (.int x1), some (.int 0), some (.int 0)], [.int 0, .long 1, .long 0], hT M, 0, 0)) rfl ?_
  refine mEnds.call (d := 19) (y' := 87) (as := [.long 0, .long 1, .int 0]) (q' := (44, [some (.ref 1), some (.int x1), some (.int 0), some (.int 0)], [], hT M, 0, 0)) (v := some (.long 0)) (hs' := hT M) (c' := 0) (s' := 0) rfl rfl (mEnds.deep (of0_0 _) 1) ?_
  exact mEnds.ret rfl
set_option maxRecDepth 100000 in
theorem m25_FFFFFFv0v0 (x1 : Int32) (f0 : decide (x1 < 0) = false) (f1 : decide (10 < x1) = false) : ∃ hs', mEnds [] 20 167 (mentry 167 [.ref 1, .int x1, .int 0, .int 0] hM0) (some (.long 0), hs', 0, 0) := by
  refine ⟨(hB 0), ?_⟩
  refine mEnds.steps 4 (q' := (6, [some (.ref 1), some (.int x1), some (.int 0), some (.int 0)], [.long 10, .long 0, .long x1.toInt64], hM0, 0, 0)) rfl ?_
  refine mEnds.call (d := 19) (y' := 111) (as := [.long x1.toInt64, .long 0, .long 10]) (q' := (9, [some (.ref 1), some (.int x1), some (.int 0), some (.int 0)], [], hM0, 0, 0)) (v := some (.int 1)) (hs' := hM0) (c' := 0) (s' := 0) rfl rfl ?_ ?_
  · refine mEnds.steps 3 (q' := (3, [some (.long x1.toInt64), none, some (.long 0), none, some (.long 10), none], [.int (lg_cmp x1.toInt64 0)], hM0, 0, 0)) rfl ?_
    refine mEnds.brF (q' := (6, [some (.long x1.toInt64), none, some (.long 0), none, some (.long 10), none], [], hM0, 0, 0)) rfl (lgc_lt (c := 0) (by decide) f0) rfl ?_
    refine mEnds.steps 3 (q' := (10, [some (.long x1.toInt64), none, some (.long 0), none, some (.long 10), none], [.int (lg_cmp x1.toInt64 10)], hM0, 0, 0)) rfl ?_
    refine mEnds.brF (q' := (13, [some (.long x1.toInt64), none, some (.long 0), none, some (.long 10), none], [], hM0, 0, 0)) rfl (lgc_gt (c := 10) (by decide) f1) rfl ?_
    refine mEnds.steps 2 (q' := (18, [some (.long x1.toInt64), none, some (.long 0), none, some (.long 10), none], [.int 1], hM0, 0, 0)) rfl ?_
    exact mEnds.ret rfl
  show mEnds [] 20 167 (9, [some (.ref 1), some (.int x1), some (.int 0), some (.int 0)], [.int 1], hM0, 0, 0) _
  refine mEnds.steps 5 (q' := (18, [some (.ref 1), some (.int x1), some (.int 0), some (.int 0)], [.long 8, .long 0, .long 0], hM0, 0, 0)) rfl ?_
  refine mEnds.call (d := 19) (y' := 111) (as := [.long 0, .long 0, .long 8]) (q' := (21, [some (.ref 1), some (.int x1), some (.int 0), some (.int 0)], [], hM0, 0, 0)) (v := some (.int 1)) (hs' := hM0) (c' := 0) (s' := 0) rfl rfl ?_ ?_
  · refine mEnds.steps 10 (q' := (18, [some (.long 0), none, some (.long 0), none, some (.long 8), none], [.int 1], hM0, 0, 0)) rfl ?_
    exact mEnds.ret rfl
  show mEnds [] 20 167 (21, [some (.ref 1), some (.int x1), some (.int 0), some (.int 0)], [.int 1], hM0, 0, 0) _
  refine mEnds.steps 5 (q' := (28, [some (.ref 1), some (.int x1), some (.int 0), some (.int 0)], [.long 1, .long 0, .long 0], hM0, 0, 0)) rfl ?_
  refine mEnds.call (d := 19) (y' := 111) (as := [.long 0, .long 0, .long 1]) (q' := (31, [some (.ref 1), some (.int x1), some (.int 0), some (.int 0)], [], hM0, 0, 0)) (v := some (.int 1)) (hs' := hM0) (c' := 0) (s' := 0) rfl rfl ?_ ?_
  · refine mEnds.steps 10 (q' := (18, [some (.long 0), none, some (.long 0), none, some (.long 1), none], [.int 1], hM0, 0, 0)) rfl ?_
    exact mEnds.ret rfl
  show mEnds [] 20 167 (31, [some (.ref 1), some (.int x1), some (.int 0), some (.int 0)], [.int 1], hM0, 0, 0) _
  refine mEnds.steps 1 (q' := (34, [some (.ref 1), some (.int x1), some (.int 0), some (.int 0)], [], hM0, 0, 0)) rfl ?_
  refine mEnds.steps 6 (q' := (41, [some (.ref 1), some (.int x1), some (.int 0), some (.int 0)], [.int 0, .int 0, .int 0, .int (-4), .int x1, .ref 1], hM0, 0, 0)) rfl ?_
  refine mEnds.call (d := 19) (y' := 165) (as := [.ref 1, .int x1, .int (-4), .int 0, .int 0, .int 0]) (q' := (44, [some (.ref 1), some (.int x1), some (.int 0), some (.int 0)], [], hM0, 0, 0)) (v := some (.long 0)) (hs' := hB 0) (c' := 0) (s' := 0) rfl rfl (bf0_0 x1) ?_
  show mEnds [] 20 167 (44, [some (.ref 1), some (.int x1), some (.int 0), some (.int 0)], [.long 0], hB 0, 0, 0) _
  refine mEnds.steps 1 (q' := (50, [some (.ref 1), some (.int x1), some (.int 0), some (.int 0)], [.long 0], hB 0, 0, 0)) rfl ?_
  exact mEnds.ret rfl
set_option maxRecDepth 100000 in
theorem c25_FFFFFFv0v1 (x1 : Int32) (f0 : decide (x1 < 0) = false) (f1 : decide (10 < x1) = false) : ∃ hs', mEnds [] 20 82 (mentry 82 [.ref 1, .int x1, .int 0, .int 1] hC0) (some (.long 1), hs', 0, 0) := by
  obtain ⟨M, -, -, hw⟩ := wg0 (N := 0) (m := 0) x1 (by decide) (by decide) (by decide) (by decide)
  rw [hT_0] at hw
  refine ⟨(hT M), ?_⟩
  refine mEnds.steps 3 (q' := (3, [some (.ref 1), some (.int x1), some (.int 0), some (.int 1)], [.int 1, .int 0, .int x1], hC0, 0, 0)) rfl ?_
  refine mEnds.call (d := 19) (y' := 83) (as := [.int x1, .int 0, .int 1]) (q' := (6, [some (.ref 1), some (.int x1), some (.int 0), some (.int 1)], [], hC0, 0, 0)) (v := some (.int 1)) (hs' := hC0) (c' := 0) (s' := 0) rfl rfl ?_ ?_
  · refine mEnds.steps 3 (q' := (4, [some (.int x1), some (.int 0), some (.int 1)], [.int 10, .int 0, .int x1], hC0, 0, 0)) rfl ?_
    refine mEnds.call (d := 18) (y' := 105) (as := [.int x1, .int 0, .int 10]) (q' := (7, [some (.int x1), some (.int 0), some (.int 1)], [], hC0, 0, 0)) (v := some (.int 1)) (hs' := hC0) (c' := 0) (s' := 0) rfl rfl ?_ ?_
    · refine mEnds.steps 2 (q' := (2, [some (.int x1), some (.int 0), some (.int 10)], [.int 0, .int x1], hC0, 0, 0)) rfl ?_
      refine mEnds.brF (q' := (5, [some (.int x1), some (.int 0), some (.int 10)], [], hC0, 0, 0)) rfl f0 rfl ?_
      refine mEnds.steps 2 (q' := (7, [some (.int x1), some (.int 0), some (.int 10)], [.int 10, .int x1], hC0, 0, 0)) rfl ?_
      refine mEnds.brF (q' := (10, [some (.int x1), some (.int 0), some (.int 10)], [], hC0, 0, 0)) rfl f1 rfl ?_
      refine mEnds.steps 2 (q' := (15, [some (.int x1), some (.int 0), some (.int 10)], [.int 1], hC0, 0, 0)) rfl ?_
      exact mEnds.ret rfl
    show mEnds [] 19 83 (7, [some (.int x1), some (.int 0), some (.int 1)], [.int 1], hC0, 0, 0) _
    refine mEnds.steps 4 (q' := (14, [some (.int x1), some (.int 0), some (.int 1)], [.int 8, .int 0, .int 0], hC0, 0, 0)) rfl ?_
    refine mEnds.call (d := 18) (y' := 105) (as := [.int 0, .int 0, .int 8]) (q' := (17, [some (.int x1), some (.int 0), some (.int 1)], [], hC0, 0, 0)) (v := some (.int 1)) (hs' := hC0) (c' := 0) (s' := 0) rfl rfl ?_ ?_
    · refine mEnds.steps 8 (q' := (15, [some (.int 0), some (.int 0), some (.int 8)], [.int 1], hC0, 0, 0)) rfl ?_
      exact mEnds.ret rfl
    show mEnds [] 19 83 (17, [some (.int x1), some (.int 0), some (.int 1)], [.int 1], hC0, 0, 0) _
    refine mEnds.steps 4 (q' := (23, [some (.int x1), some (.int 0), some (.int 1)], [.int 1, .int 0, .int 1], hC0, 0, 0)) rfl ?_
    refine mEnds.call (d := 18) (y' := 105) (as := [.int 1, .int 0, .int 1]) (q' := (26, [some (.int x1), some (.int 0), some (.int 1)], [], hC0, 0, 0)) (v := some (.int 1)) (hs' := hC0) (c' := 0) (s' := 0) rfl rfl ?_ ?_
    · refine mEnds.steps 8 (q' := (15, [some (.int 1), some (.int 0), some (.int 1)], [.int 1], hC0, 0, 0)) rfl ?_
      exact mEnds.ret rfl
    show mEnds [] 19 83 (26, [some (.int x1), some (.int 0), some (.int 1)], [.int 1], hC0, 0, 0) _
    refine mEnds.steps 3 (q' := (34, [some (.int x1), some (.int 0), some (.int 1)], [.int 1], hC0, 0, 0)) rfl ?_
    exact mEnds.ret rfl
  show mEnds [] 20 82 (6, [some (.ref 1), some (.int x1), some (.int 0), some (.int 1)], [.int 1], hC0, 0, 0) _
  refine mEnds.steps 1 (q' := (13, [some (.ref 1), some (.int x1), some (.int 0), some (.int 1)], [], hC0, 0, 0)) rfl ?_
  refine mEnds.steps 6 (q' := (23, [some (.ref 1), some (.int x1), some (.int 0), some (.int 1)], [.ref 2, .ref 44], hC0, 0, 0)) rfl ?_
  refine mEnds.call (d := 19) (y' := 7) (as := [.ref 44, .ref 2]) (q' := (26, [some (.ref 1), some (.int x1), some (.int 0), some (.int 1)], [], hC0, 0, 0)) (v := none) (hs' := hC0) (c' := 0) (s' := 0) rfl rfl (mEnds.deep cpM 9) ?_
  show mEnds [] 20 82 (26, [some (.ref 1), some (.int x1), some (.int 0), some (.int 1)], [], hC0, 0, 0) _
  refine mEnds.steps 6 (q' := (33, [some (.ref 1), some (.int x1), some (.int 0), some (.int 1)], [.int 0, .int (-4), .int x1, .int 0, .int 0, .ref 1], hC0, 0, 0)) rfl ?_
  refine mEnds.call (d := 19) (y' := 84) (as := [.ref 1, .int 0, .int 0, .int x1, .int (-4), .int 0]) (q' := (36, [some (.ref 1), some (.int x1), some (.int 0), some (.int 1)], [], hC0, 0, 0)) (v := some (.long 0)) (hs' := hT M) (c' := 0) (s' := 0) rfl rfl hw ?_
  show mEnds [] 20 82 (36, [some (.ref 1), some (.int x1), some (.int 0), some (.int 1)], [.long 0], hT M, 0, 0) _
  refine mEnds.steps 1 (q' := (37, [some (.ref 1), some (.int x1), some (.int 0), some (.int 1)], [.int 0, .long 0], hT M, 0, 0)) rfl ?_
  refine mEnds.call (d := 19) (y' := 86) (as := [.int 0]) (q' := (40, [some (.ref 1), some (.int x1), some (.int 0), some (.int 1)], [.long 0], hT M, 0, 0)) (v := some (.long 1)) (hs' := hT M) (c' := 0) (s' := 0) rfl rfl (mEnds.deep (te0 _) 1) ?_
  show mEnds [] 20 82 (40, [some (.ref 1), some (.int x1), some (.int 0), some (.int 1)], [.long 1, .long 0], hT M, 0, 0) _
  refine mEnds.steps 1 (q' := (41, [some (.ref 1), some (.int x1), some (.int 0), some (.int 1)], [.int 1, .long 1, .long 0], hT M, 0, 0)) rfl ?_
  refine mEnds.call (d := 19) (y' := 87) (as := [.long 0, .long 1, .int 1]) (q' := (44, [some (.ref 1), some (.int x1), some (.int 0), some (.int 1)], [], hT M, 0, 0)) (v := some (.long 1)) (hs' := hT M) (c' := 0) (s' := 0) rfl rfl (mEnds.deep (of0_1 _) 1) ?_
  exact mEnds.ret rfl
set_option maxRecDepth 100000 in
theorem m25_FFFFFFv0v1 (x1 : Int32) (f0 : decide (x1 < 0) = false) (f1 : decide (10 < x1) = false) : ∃ hs', mEnds [] 20 167 (mentry 167 [.ref 1, .int x1, .int 0, .int 1] hM0) (some (.long 1), hs', 0, 0) := by
  refine ⟨(hB 0), ?_⟩
  refine mEnds.steps 4 (q' := (6, [some (.ref 1), some (.int x1), some (.int 0), some (.int 1)], [.long 10, .long 0, .long x1.toInt64], hM0, 0, 0)) rfl ?_
  refine mEnds.call (d := 19) (y' := 111) (as := [.long x1.toInt64, .long 0, .long 10]) (q' := (9, [some (.ref 1), some (.int x1), some (.int 0), some (.int 1)], [], hM0, 0, 0)) (v := some (.int 1)) (hs' := hM0) (c' := 0) (s' := 0) rfl rfl ?_ ?_
  · refine mEnds.steps 3 (q' := (3, [some (.long x1.toInt64), none, some (.long 0), none, some (.long 10), none], [.int (lg_cmp x1.toInt64 0)], hM0, 0, 0)) rfl ?_
    refine mEnds.brF (q' := (6, [some (.long x1.toInt64), none, some (.long 0), none, some (.long 10), none], [], hM0, 0, 0)) rfl (lgc_lt (c := 0) (by decide) f0) rfl ?_
    refine mEnds.steps 3 (q' := (10, [some (.long x1.toInt64), none, some (.long 0), none, some (.long 10), none], [.int (lg_cmp x1.toInt64 10)], hM0, 0, 0)) rfl ?_
    refine mEnds.brF (q' := (13, [some (.long x1.toInt64), none, some (.long 0), none, some (.long 10), none], [], hM0, 0, 0)) rfl (lgc_gt (c := 10) (by decide) f1) rfl ?_
    refine mEnds.steps 2 (q' := (18, [some (.long x1.toInt64), none, some (.long 0), none, some (.long 10), none], [.int 1], hM0, 0, 0)) rfl ?_
    exact mEnds.ret rfl
  show mEnds [] 20 167 (9, [some (.ref 1), some (.int x1), some (.int 0), some (.int 1)], [.int 1], hM0, 0, 0) _
  refine mEnds.steps 5 (q' := (18, [some (.ref 1), some (.int x1), some (.int 0), some (.int 1)], [.long 8, .long 0, .long 0], hM0, 0, 0)) rfl ?_
  refine mEnds.call (d := 19) (y' := 111) (as := [.long 0, .long 0, .long 8]) (q' := (21, [some (.ref 1), some (.int x1), some (.int 0), some (.int 1)], [], hM0, 0, 0)) (v := some (.int 1)) (hs' := hM0) (c' := 0) (s' := 0) rfl rfl ?_ ?_
  · refine mEnds.steps 10 (q' := (18, [some (.long 0), none, some (.long 0), none, some (.long 8), none], [.int 1], hM0, 0, 0)) rfl ?_
    exact mEnds.ret rfl
  show mEnds [] 20 167 (21, [some (.ref 1), some (.int x1), some (.int 0), some (.int 1)], [.int 1], hM0, 0, 0) _
  refine mEnds.steps 5 (q' := (28, [some (.ref 1), some (.int x1), some (.int 0), some (.int 1)], [.long 1, .long 0, .long 1], hM0, 0, 0)) rfl ?_
  refine mEnds.call (d := 19) (y' := 111) (as := [.long 1, .long 0, .long 1]) (q' := (31, [some (.ref 1), some (.int x1), some (.int 0), some (.int 1)], [], hM0, 0, 0)) (v := some (.int 1)) (hs' := hM0) (c' := 0) (s' := 0) rfl rfl ?_ ?_
  · refine mEnds.steps 10 (q' := (18, [some (.long 1), none, some (.long 0), none, some (.long 1), none], [.int 1], hM0, 0, 0)) rfl ?_
    exact mEnds.ret rfl
  show mEnds [] 20 167 (31, [some (.ref 1), some (.int x1), some (.int 0), some (.int 1)], [.int 1], hM0, 0, 0) _
  refine mEnds.steps 1 (q' := (34, [some (.ref 1), some (.int x1), some (.int 0), some (.int 1)], [], hM0, 0, 0)) rfl ?_
  refine mEnds.steps 6 (q' := (41, [some (.ref 1), some (.int x1), some (.int 0), some (.int 1)], [.int 1, .int 0, .int 0, .int (-4), .int x1, .ref 1], hM0, 0, 0)) rfl ?_
  refine mEnds.call (d := 19) (y' := 165) (as := [.ref 1, .int x1, .int (-4), .int 0, .int 0, .int 1]) (q' := (44, [some (.ref 1), some (.int x1), some (.int 0), some (.int 1)], [], hM0, 0, 0)) (v := some (.long 1)) (hs' := hB 0) (c' := 0) (s' := 0) rfl rfl (bf0_1 x1) ?_
  show mEnds [] 20 167 (44, [some (.ref 1), some (.int x1), some (.int 0), some (.int 1)], [.long 1], hB 0, 0, 0) _
  refine mEnds.steps 1 (q' := (50, [some (.ref 1), some (.int x1), some (.int 0), some (.int 1)], [.long 1], hB 0, 0, 0)) rfl ?_
  exact mEnds.ret rfl
set_option maxRecDepth 100000 in
theorem c25_FFFFFFv1v0 (x1 : Int32) (f0 : decide (x1 < 0) = false) (f1 : decide (10 < x1) = false) : ∃ hs', mEnds [] 20 82 (mentry 82 [.ref 1, .int x1, .int 1, .int 0] hC0) (some (.long 0), hs', 0, 0) := by
  obtain ⟨M, -, -, hw⟩ := wg0 (N := 1) (m := 0) x1 (by decide) (by decide) (by decide) (by decide)
  rw [hT_0] at hw
  refine ⟨(hT M), ?_⟩
  refine mEnds.steps 3 (q' := (3, [some (.ref 1), some (.int x1), some (.int 1), some (.int 0)], [.int 0, .int 1, .int x1], hC0, 0, 0)) rfl ?_
  refine mEnds.call (d := 19) (y' := 83) (as := [.int x1, .int 1, .int 0]) (q' := (6, [some (.ref 1), some (.int x1), some (.int 1), some (.int 0)], [], hC0, 0, 0)) (v := some (.int 1)) (hs' := hC0) (c' := 0) (s' := 0) rfl rfl ?_ ?_
  · refine mEnds.steps 3 (q' := (4, [some (.int x1), some (.int 1), some (.int 0)], [.int 10, .int 0, .int x1], hC0, 0, 0)) rfl ?_
    refine mEnds.call (d := 18) (y' := 105) (as := [.int x1, .int 0, .int 10]) (q' := (7, [some (.int x1), some (.int 1), some (.int 0)], [], hC0, 0, 0)) (v := some (.int 1)) (hs' := hC0) (c' := 0) (s' := 0) rfl rfl ?_ ?_
    · refine mEnds.steps 2 (q' := (2, [some (.int x1), some (.int 0), some (.int 10)], [.int 0, .int x1], hC0, 0, 0)) rfl ?_
      refine mEnds.brF (q' := (5, [some (.int x1), some (.int 0), some (.int 10)], [], hC0, 0, 0)) rfl f0 rfl ?_
      refine mEnds.steps 2 (q' := (7, [some (.int x1), some (.int 0), some (.int 10)], [.int 10, .int x1], hC0, 0, 0)) rfl ?_
      refine mEnds.brF (q' := (10, [some (.int x1), some (.int 0), some (.int 10)], [], hC0, 0, 0)) rfl f1 rfl ?_
      refine mEnds.steps 2 (q' := (15, [some (.int x1), some (.int 0), some (.int 10)], [.int 1], hC0, 0, 0)) rfl ?_
      exact mEnds.ret rfl
    show mEnds [] 19 83 (7, [some (.int x1), some (.int 1), some (.int 0)], [.int 1], hC0, 0, 0) _
    refine mEnds.steps 4 (q' := (14, [some (.int x1), some (.int 1), some (.int 0)], [.int 8, .int 0, .int 1], hC0, 0, 0)) rfl ?_
    refine mEnds.call (d := 18) (y' := 105) (as := [.int 1, .int 0, .int 8]) (q' := (17, [some (.int x1), some (.int 1), some (.int 0)], [], hC0, 0, 0)) (v := some (.int 1)) (hs' := hC0) (c' := 0) (s' := 0) rfl rfl ?_ ?_
    · refine mEnds.steps 8 (q' := (15, [some (.int 1), some (.int 0), some (.int 8)], [.int 1], hC0, 0, 0)) rfl ?_
      exact mEnds.ret rfl
    show mEnds [] 19 83 (17, [some (.int x1), some (.int 1), some (.int 0)], [.int 1], hC0, 0, 0) _
    refine mEnds.steps 4 (q' := (23, [some (.int x1), some (.int 1), some (.int 0)], [.int 1, .int 0, .int 0], hC0, 0, 0)) rfl ?_
    refine mEnds.call (d := 18) (y' := 105) (as := [.int 0, .int 0, .int 1]) (q' := (26, [some (.int x1), some (.int 1), some (.int 0)], [], hC0, 0, 0)) (v := some (.int 1)) (hs' := hC0) (c' := 0) (s' := 0) rfl rfl ?_ ?_
    · refine mEnds.steps 8 (q' := (15, [some (.int 0), some (.int 0), some (.int 1)], [.int 1], hC0, 0, 0)) rfl ?_
      exact mEnds.ret rfl
    show mEnds [] 19 83 (26, [some (.int x1), some (.int 1), some (.int 0)], [.int 1], hC0, 0, 0) _
    refine mEnds.steps 3 (q' := (34, [some (.int x1), some (.int 1), some (.int 0)], [.int 1], hC0, 0, 0)) rfl ?_
    exact mEnds.ret rfl
  show mEnds [] 20 82 (6, [some (.ref 1), some (.int x1), some (.int 1), some (.int 0)], [.int 1], hC0, 0, 0) _
  refine mEnds.steps 1 (q' := (13, [some (.ref 1), some (.int x1), some (.int 1), some (.int 0)], [], hC0, 0, 0)) rfl ?_
  refine mEnds.steps 6 (q' := (23, [some (.ref 1), some (.int x1), some (.int 1), some (.int 0)], [.ref 2, .ref 44], hC0, 0, 0)) rfl ?_
  refine mEnds.call (d := 19) (y' := 7) (as := [.ref 44, .ref 2]) (q' := (26, [some (.ref 1), some (.int x1), some (.int 1), some (.int 0)], [], hC0, 0, 0)) (v := none) (hs' := hC0) (c' := 0) (s' := 0) rfl rfl (mEnds.deep cpM 9) ?_
  show mEnds [] 20 82 (26, [some (.ref 1), some (.int x1), some (.int 1), some (.int 0)], [], hC0, 0, 0) _
  refine mEnds.steps 6 (q' := (33, [some (.ref 1), some (.int x1), some (.int 1), some (.int 0)], [.int 0, .int (-4), .int x1, .int 1, .int 0, .ref 1], hC0, 0, 0)) rfl ?_
  refine mEnds.call (d := 19) (y' := 84) (as := [.ref 1, .int 0, .int 1, .int x1, .int (-4), .int 0]) (q' := (36, [some (.ref 1), some (.int x1), some (.int 1), some (.int 0)], [], hC0, 0, 0)) (v := some (.long 0)) (hs' := hT M) (c' := 0) (s' := 0) rfl rfl hw ?_
  show mEnds [] 20 82 (36, [some (.ref 1), some (.int x1), some (.int 1), some (.int 0)], [.long 0], hT M, 0, 0) _
  refine mEnds.steps 1 (q' := (37, [some (.ref 1), some (.int x1), some (.int 1), some (.int 0)], [.int 1, .long 0], hT M, 0, 0)) rfl ?_
  refine mEnds.call (d := 19) (y' := 86) (as := [.int 1]) (q' := (40, [some (.ref 1), some (.int x1), some (.int 1), some (.int 0)], [.long 0], hT M, 0, 0)) (v := some (.long 10)) (hs' := hT M) (c' := 0) (s' := 0) rfl rfl (mEnds.deep (te1 _) 1) ?_
  show mEnds [] 20 82 (40, [some (.ref 1), some (.int x1), some (.int 1), some (.int 0)], [.long 10, .long 0], hT M, 0, 0) _
  refine mEnds.steps 1 (q' := (41, [some (.ref 1), some (.int x1), some (.int 1), some (.int 0)], [.int 0, .long 10, .long 0], hT M, 0, 0)) rfl ?_
  refine mEnds.call (d := 19) (y' := 87) (as := [.long 0, .long 10, .int 0]) (q' := (44, [some (.ref 1), some (.int x1), some (.int 1), some (.int 0)], [], hT M, 0, 0)) (v := some (.long 0)) (hs' := hT M) (c' := 0) (s' := 0) rfl rfl (mEnds.deep (of1_0 _) 1) ?_
  exact mEnds.ret rfl
set_option maxRecDepth 100000 in
theorem m25_FFFFFFv1v0 (x1 : Int32) (f0 : decide (x1 < 0) = false) (f1 : decide (10 < x1) = false) : ∃ hs', mEnds [] 20 167 (mentry 167 [.ref 1, .int x1, .int 1, .int 0] hM0) (some (.long 0), hs', 0, 0) := by
  refine ⟨(hB 1), ?_⟩
  refine mEnds.steps 4 (q' := (6, [some (.ref 1), some (.int x1), some (.int 1), some (.int 0)], [.long 10, .long 0, .long x1.toInt64], hM0, 0, 0)) rfl ?_
  refine mEnds.call (d := 19) (y' := 111) (as := [.long x1.toInt64, .long 0, .long 10]) (q' := (9, [some (.ref 1), some (.int x1), some (.int 1), some (.int 0)], [], hM0, 0, 0)) (v := some (.int 1)) (hs' := hM0) (c' := 0) (s' := 0) rfl rfl ?_ ?_
  · refine mEnds.steps 3 (q' := (3, [some (.long x1.toInt64), none, some (.long 0), none, some (.long 10), none], [.int (lg_cmp x1.toInt64 0)], hM0, 0, 0)) rfl ?_
    refine mEnds.brF (q' := (6, [some (.long x1.toInt64), none, some (.long 0), none, some (.long 10), none], [], hM0, 0, 0)) rfl (lgc_lt (c := 0) (by decide) f0) rfl ?_
    refine mEnds.steps 3 (q' := (10, [some (.long x1.toInt64), none, some (.long 0), none, some (.long 10), none], [.int (lg_cmp x1.toInt64 10)], hM0, 0, 0)) rfl ?_
    refine mEnds.brF (q' := (13, [some (.long x1.toInt64), none, some (.long 0), none, some (.long 10), none], [], hM0, 0, 0)) rfl (lgc_gt (c := 10) (by decide) f1) rfl ?_
    refine mEnds.steps 2 (q' := (18, [some (.long x1.toInt64), none, some (.long 0), none, some (.long 10), none], [.int 1], hM0, 0, 0)) rfl ?_
    exact mEnds.ret rfl
  show mEnds [] 20 167 (9, [some (.ref 1), some (.int x1), some (.int 1), some (.int 0)], [.int 1], hM0, 0, 0) _
  refine mEnds.steps 5 (q' := (18, [some (.ref 1), some (.int x1), some (.int 1), some (.int 0)], [.long 8, .long 0, .long 1], hM0, 0, 0)) rfl ?_
  refine mEnds.call (d := 19) (y' := 111) (as := [.long 1, .long 0, .long 8]) (q' := (21, [some (.ref 1), some (.int x1), some (.int 1), some (.int 0)], [], hM0, 0, 0)) (v := some (.int 1)) (hs' := hM0) (c' := 0) (s' := 0) rfl rfl ?_ ?_
  · refine mEnds.steps 10 (q' := (18, [some (.long 1), none, some (.long 0), none, some (.long 8), none], [.int 1], hM0, 0, 0)) rfl ?_
    exact mEnds.ret rfl
  show mEnds [] 20 167 (21, [some (.ref 1), some (.int x1), some (.int 1), some (.int 0)], [.int 1], hM0, 0, 0) _
  refine mEnds.steps 5 (q' := (28, [some (.ref 1), some (.int x1), some (.int 1), some (.int 0)], [.long 1, .long 0, .long 0], hM0, 0, 0)) rfl ?_
  refine mEnds.call (d := 19) (y' := 111) (as := [.long 0, .long 0, .long 1]) (q' := (31, [some (.ref 1), some (.int x1), some (.int 1), some (.int 0)], [], hM0, 0, 0)) (v := some (.int 1)) (hs' := hM0) (c' := 0) (s' := 0) rfl rfl ?_ ?_
  · refine mEnds.steps 10 (q' := (18, [some (.long 0), none, some (.long 0), none, some (.long 1), none], [.int 1], hM0, 0, 0)) rfl ?_
    exact mEnds.ret rfl
  show mEnds [] 20 167 (31, [some (.ref 1), some (.int x1), some (.int 1), some (.int 0)], [.int 1], hM0, 0, 0) _
  refine mEnds.steps 1 (q' := (34, [some (.ref 1), some (.int x1), some (.int 1), some (.int 0)], [], hM0, 0, 0)) rfl ?_
  refine mEnds.steps 6 (q' := (41, [some (.ref 1), some (.int x1), some (.int 1), some (.int 0)], [.int 0, .int 0, .int 1, .int (-4), .int x1, .ref 1], hM0, 0, 0)) rfl ?_
  refine mEnds.call (d := 19) (y' := 165) (as := [.ref 1, .int x1, .int (-4), .int 1, .int 0, .int 0]) (q' := (44, [some (.ref 1), some (.int x1), some (.int 1), some (.int 0)], [], hM0, 0, 0)) (v := some (.long 0)) (hs' := hB 1) (c' := 0) (s' := 0) rfl rfl (bf1_0 x1) ?_
  show mEnds [] 20 167 (44, [some (.ref 1), some (.int x1), some (.int 1), some (.int 0)], [.long 0], hB 1, 0, 0) _
  refine mEnds.steps 1 (q' := (50, [some (.ref 1), some (.int x1), some (.int 1), some (.int 0)], [.long 0], hB 1, 0, 0)) rfl ?_
  exact mEnds.ret rfl
set_option maxRecDepth 100000 in
theorem c25_FFFFFFv1v1 (x1 : Int32) (f0 : decide (x1 < 0) = false) (f1 : decide (10 < x1) = false) : ∃ hs', mEnds [] 20 82 (mentry 82 [.ref 1, .int x1, .int 1, .int 1] hC0) (some (.long 1), hs', 0, 0) := by
  obtain ⟨M, -, -, hw⟩ := wg0 (N := 1) (m := 0) x1 (by decide) (by decide) (by decide) (by decide)
  rw [hT_0] at hw
  refine ⟨(hT M), ?_⟩
  refine mEnds.steps 3 (q' := (3, [some (.ref 1), some (.int x1), some (.int 1), some (.int 1)], [.int 1, .int 1, .int x1], hC0, 0, 0)) rfl ?_
  refine mEnds.call (d := 19) (y' := 83) (as := [.int x1, .int 1, .int 1]) (q' := (6, [some (.ref 1), some (.int x1), some (.int 1), some (.int 1)], [], hC0, 0, 0)) (v := some (.int 1)) (hs' := hC0) (c' := 0) (s' := 0) rfl rfl ?_ ?_
  · refine mEnds.steps 3 (q' := (4, [some (.int x1), some (.int 1), some (.int 1)], [.int 10, .int 0, .int x1], hC0, 0, 0)) rfl ?_
    refine mEnds.call (d := 18) (y' := 105) (as := [.int x1, .int 0, .int 10]) (q' := (7, [some (.int x1), some (.int 1), some (.int 1)], [], hC0, 0, 0)) (v := some (.int 1)) (hs' := hC0) (c' := 0) (s' := 0) rfl rfl ?_ ?_
    · refine mEnds.steps 2 (q' := (2, [some (.int x1), some (.int 0), some (.int 10)], [.int 0, .int x1], hC0, 0, 0)) rfl ?_
      refine mEnds.brF (q' := (5, [some (.int x1), some (.int 0), some (.int 10)], [], hC0, 0, 0)) rfl f0 rfl ?_
      refine mEnds.steps 2 (q' := (7, [some (.int x1), some (.int 0), some (.int 10)], [.int 10, .int x1], hC0, 0, 0)) rfl ?_
      refine mEnds.brF (q' := (10, [some (.int x1), some (.int 0), some (.int 10)], [], hC0, 0, 0)) rfl f1 rfl ?_
      refine mEnds.steps 2 (q' := (15, [some (.int x1), some (.int 0), some (.int 10)], [.int 1], hC0, 0, 0)) rfl ?_
      exact mEnds.ret rfl
    show mEnds [] 19 83 (7, [some (.int x1), some (.int 1), some (.int 1)], [.int 1], hC0, 0, 0) _
    refine mEnds.steps 4 (q' := (14, [some (.int x1), some (.int 1), some (.int 1)], [.int 8, .int 0, .int 1], hC0, 0, 0)) rfl ?_
    refine mEnds.call (d := 18) (y' := 105) (as := [.int 1, .int 0, .int 8]) (q' := (17, [some (.int x1), some (.int 1), some (.int 1)], [], hC0, 0, 0)) (v := some (.int 1)) (hs' := hC0) (c' := 0) (s' := 0) rfl rfl ?_ ?_
    · refine mEnds.steps 8 (q' := (15, [some (.int 1), some (.int 0), some (.int 8)], [.int 1], hC0, 0, 0)) rfl ?_
      exact mEnds.ret rfl
    show mEnds [] 19 83 (17, [some (.int x1), some (.int 1), some (.int 1)], [.int 1], hC0, 0, 0) _
    refine mEnds.steps 4 (q' := (23, [some (.int x1), some (.int 1), some (.int 1)], [.int 1, .int 0, .int 1], hC0, 0, 0)) rfl ?_
    refine mEnds.call (d := 18) (y' := 105) (as := [.int 1, .int 0, .int 1]) (q' := (26, [some (.int x1), some (.int 1), some (.int 1)], [], hC0, 0, 0)) (v := some (.int 1)) (hs' := hC0) (c' := 0) (s' := 0) rfl rfl ?_ ?_
    · refine mEnds.steps 8 (q' := (15, [some (.int 1), some (.int 0), some (.int 1)], [.int 1], hC0, 0, 0)) rfl ?_
      exact mEnds.ret rfl
    show mEnds [] 19 83 (26, [some (.int x1), some (.int 1), some (.int 1)], [.int 1], hC0, 0, 0) _
    refine mEnds.steps 3 (q' := (34, [some (.int x1), some (.int 1), some (.int 1)], [.int 1], hC0, 0, 0)) rfl ?_
    exact mEnds.ret rfl
  show mEnds [] 20 82 (6, [some (.ref 1), some (.int x1), some (.int 1), some (.int 1)], [.int 1], hC0, 0, 0) _
  refine mEnds.steps 1 (q' := (13, [some (.ref 1), some (.int x1), some (.int 1), some (.int 1)], [], hC0, 0, 0)) rfl ?_
  refine mEnds.steps 6 (q' := (23, [some (.ref 1), some (.int x1), some (.int 1), some (.int 1)], [.ref 2, .ref 44], hC0, 0, 0)) rfl ?_
  refine mEnds.call (d := 19) (y' := 7) (as := [.ref 44, .ref 2]) (q' := (26, [some (.ref 1), some (.int x1), some (.int 1), some (.int 1)], [], hC0, 0, 0)) (v := none) (hs' := hC0) (c' := 0) (s' := 0) rfl rfl (mEnds.deep cpM 9) ?_
  show mEnds [] 20 82 (26, [some (.ref 1), some (.int x1), some (.int 1), some (.int 1)], [], hC0, 0, 0) _
  refine mEnds.steps 6 (q' := (33, [some (.ref 1), some (.int x1), some (.int 1), some (.int 1)], [.int 0, .int (-4), .int x1, .int 1, .int 0, .ref 1], hC0, 0, 0)) rfl ?_
  refine mEnds.call (d := 19) (y' := 84) (as := [.ref 1, .int 0, .int 1, .int x1, .int (-4), .int 0]) (q' := (36, [some (.ref 1), some (.int x1), some (.int 1), some (.int 1)], [], hC0, 0, 0)) (v := some (.long 0)) (hs' := hT M) (c' := 0) (s' := 0) rfl rfl hw ?_
  show mEnds [] 20 82 (36, [some (.ref 1), some (.int x1), some (.int 1), some (.int 1)], [.long 0], hT M, 0, 0) _
  refine mEnds.steps 1 (q' := (37, [some (.ref 1), some (.int x1), some (.int 1), some (.int 1)], [.int 1, .long 0], hT M, 0, 0)) rfl ?_
  refine mEnds.call (d := 19) (y' := 86) (as := [.int 1]) (q' := (40, [some (.ref 1), some (.int x1), some (.int 1), some (.int 1)], [.long 0], hT M, 0, 0)) (v := some (.long 10)) (hs' := hT M) (c' := 0) (s' := 0) rfl rfl (mEnds.deep (te1 _) 1) ?_
  show mEnds [] 20 82 (40, [some (.ref 1), some (.int x1), some (.int 1), some (.int 1)], [.long 10, .long 0], hT M, 0, 0) _
  refine mEnds.steps 1 (q' := (41, [some (.ref 1), some (.int x1), some (.int 1), some (.int 1)], [.int 1, .long 10, .long 0], hT M, 0, 0)) rfl ?_
  refine mEnds.call (d := 19) (y' := 87) (as := [.long 0, .long 10, .int 1]) (q' := (44, [some (.ref 1), some (.int x1), some (.int 1), some (.int 1)], [], hT M, 0, 0)) (v := some (.long 1)) (hs' := hT M) (c' := 0) (s' := 0) rfl rfl (mEnds.deep (of1_1 _) 1) ?_
  exact mEnds.ret rfl
set_option maxRecDepth 100000 in
theorem m25_FFFFFFv1v1 (x1 : Int32) (f0 : decide (x1 < 0) = false) (f1 : decide (10 < x1) = false) : ∃ hs', mEnds [] 20 167 (mentry 167 [.ref 1, .int x1, .int 1, .int 1] hM0) (some (.long 1), hs', 0, 0) := by
  refine ⟨(hB 1), ?_⟩
  refine mEnds.steps 4 (q' := (6, [some (.ref 1), some (.int x1), some (.int 1), some (.int 1)], [.long 10, .long 0, .long x1.toInt64], hM0, 0, 0)) rfl ?_
  refine mEnds.call (d := 19) (y' := 111) (as := [.long x1.toInt64, .long 0, .long 10]) (q' := (9, [some (.ref 1), some (.int x1), some (.int 1), some (.int 1)], [], hM0, 0, 0)) (v := some (.int 1)) (hs' := hM0) (c' := 0) (s' := 0) rfl rfl ?_ ?_
  · refine mEnds.steps 3 (q' := (3, [some (.long x1.toInt64), none, some (.long 0), none, some (.long 10), none], [.int (lg_cmp x1.toInt64 0)], hM0, 0, 0)) rfl ?_
    refine mEnds.brF (q' := (6, [some (.long x1.toInt64), none, some (.long 0), none, some (.long 10), none], [], hM0, 0, 0)) rfl (lgc_lt (c := 0) (by decide) f0) rfl ?_
    refine mEnds.steps 3 (q' := (10, [some (.long x1.toInt64), none, some (.long 0), none, some (.long 10), none], [.int (lg_cmp x1.toInt64 10)], hM0, 0, 0)) rfl ?_
    refine mEnds.brF (q' := (13, [some (.long x1.toInt64), none, some (.long 0), none, some (.long 10), none], [], hM0, 0, 0)) rfl (lgc_gt (c := 10) (by decide) f1) rfl ?_
    refine mEnds.steps 2 (q' := (18, [some (.long x1.toInt64), none, some (.long 0), none, some (.long 10), none], [.int 1], hM0, 0, 0)) rfl ?_
    exact mEnds.ret rfl
  show mEnds [] 20 167 (9, [some (.ref 1), some (.int x1), some (.int 1), some (.int 1)], [.int 1], hM0, 0, 0) _
  refine mEnds.steps 5 (q' := (18, [some (.ref 1), some (.int x1), some (.int 1), some (.int 1)], [.long 8, .long 0, .long 1], hM0, 0, 0)) rfl ?_
  refine mEnds.call (d := 19) (y' := 111) (as := [.long 1, .long 0, .long 8]) (q' := (21, [some (.ref 1), some (.int x1), some (.int 1), some (.int 1)], [], hM0, 0, 0)) (v := some (.int 1)) (hs' := hM0) (c' := 0) (s' := 0) rfl rfl ?_ ?_
  · refine mEnds.steps 10 (q' := (18, [some (.long 1), none, some (.long 0), none, some (.long 8), none], [.int 1], hM0, 0, 0)) rfl ?_
    exact mEnds.ret rfl
  show mEnds [] 20 167 (21, [some (.ref 1), some (.int x1), some (.int 1), some (.int 1)], [.int 1], hM0, 0, 0) _
  refine mEnds.steps 5 (q' := (28, [some (.ref 1), some (.int x1), some (.int 1), some (.int 1)], [.long 1, .long 0, .long 1], hM0, 0, 0)) rfl ?_
  refine mEnds.call (d := 19) (y' := 111) (as := [.long 1, .long 0, .long 1]) (q' := (31, [some (.ref 1), some (.int x1), some (.int 1), some (.int 1)], [], hM0, 0, 0)) (v := some (.int 1)) (hs' := hM0) (c' := 0) (s' := 0) rfl rfl ?_ ?_
  · refine mEnds.steps 10 (q' := (18, [some (.long 1), none, some (.long 0), none, some (.long 1), none], [.int 1], hM0, 0, 0)) rfl ?_
    exact mEnds.ret rfl
  show mEnds [] 20 167 (31, [some (.ref 1), some (.int x1), some (.int 1), some (.int 1)], [.int 1], hM0, 0, 0) _
  refine mEnds.steps 1 (q' := (34, [some (.ref 1), some (.int x1), some (.int 1), some (.int 1)], [], hM0, 0, 0)) rfl ?_
  refine mEnds.steps 6 (q' := (41, [some (.ref 1), some (.int x1), some (.int 1), some (.int 1)], [.int 1, .int 0, .int 1, .int (-4), .int x1, .ref 1], hM0, 0, 0)) rfl ?_
  refine mEnds.call (d := 19) (y' := 165) (as := [.ref 1, .int x1, .int (-4), .int 1, .int 0, .int 1]) (q' := (44, [some (.ref 1), some (.int x1), some (.int 1), some (.int 1)], [], hM0, 0, 0)) (v := some (.long 1)) (hs' := hB 1) (c' := 0) (s' := 0) rfl rfl (bf1_1 x1) ?_
  show mEnds [] 20 167 (44, [some (.ref 1), some (.int x1), some (.int 1), some (.int 1)], [.long 1], hB 1, 0, 0) _
  refine mEnds.steps 1 (q' := (50, [some (.ref 1), some (.int x1), some (.int 1), some (.int 1)], [.long 1], hB 1, 0, 0)) rfl ?_
  exact mEnds.ret rfl
set_option maxRecDepth 100000 in
theorem c25_FFFFFFv2v0 (x1 : Int32) (f0 : decide (x1 < 0) = false) (f1 : decide (10 < x1) = false) : ∃ hs', mEnds [] 20 82 (mentry 82 [.ref 1, .int x1, .int 2, .int 0] hC0) (some (.long 0), hs', 0, 0) := by
  obtain ⟨M, -, -, hw⟩ := wg0 (N := 2) (m := 0) x1 (by decide) (by decide) (by decide) (by decide)
  rw [hT_0] at hw
  refine ⟨(hT M), ?_⟩
  refine mEnds.steps 3 (q' := (3, [some (.ref 1), some (.int x1), some (.int 2), some (.int 0)], [.int 0, .int 2, .int x1], hC0, 0, 0)) rfl ?_
  refine mEnds.call (d := 19) (y' := 83) (as := [.int x1, .int 2, .int 0]) (q' := (6, [some (.ref 1), some (.int x1), some (.int 2), some (.int 0)], [], hC0, 0, 0)) (v := some (.int 1)) (hs' := hC0) (c' := 0) (s' := 0) rfl rfl ?_ ?_
  · refine mEnds.steps 3 (q' := (4, [some (.int x1), some (.int 2), some (.int 0)], [.int 10, .int 0, .int x1], hC0, 0, 0)) rfl ?_
    refine mEnds.call (d := 18) (y' := 105) (as := [.int x1, .int 0, .int 10]) (q' := (7, [some (.int x1), some (.int 2), some (.int 0)], [], hC0, 0, 0)) (v := some (.int 1)) (hs' := hC0) (c' := 0) (s' := 0) rfl rfl ?_ ?_
    · refine mEnds.steps 2 (q' := (2, [some (.int x1), some (.int 0), some (.int 10)], [.int 0, .int x1], hC0, 0, 0)) rfl ?_
      refine mEnds.brF (q' := (5, [some (.int x1), some (.int 0), some (.int 10)], [], hC0, 0, 0)) rfl f0 rfl ?_
      refine mEnds.steps 2 (q' := (7, [some (.int x1), some (.int 0), some (.int 10)], [.int 10, .int x1], hC0, 0, 0)) rfl ?_
      refine mEnds.brF (q' := (10, [some (.int x1), some (.int 0), some (.int 10)], [], hC0, 0, 0)) rfl f1 rfl ?_
      refine mEnds.steps 2 (q' := (15, [some (.int x1), some (.int 0), some (.int 10)], [.int 1], hC0, 0, 0)) rfl ?_
      exact mEnds.ret rfl
    show mEnds [] 19 83 (7, [some (.int x1), some (.int 2), some (.int 0)], [.int 1], hC0, 0, 0) _
    refine mEnds.steps 4 (q' := (14, [some (.int x1), some (.int 2), some (.int 0)], [.int 8, .int 0, .int 2], hC0, 0, 0)) rfl ?_
    refine mEnds.call (d := 18) (y' := 105) (as := [.int 2, .int 0, .int 8]) (q' := (17, [some (.int x1), some (.int 2), some (.int 0)], [], hC0, 0, 0)) (v := some (.int 1)) (hs' := hC0) (c' := 0) (s' := 0) rfl rfl ?_ ?_
    · refine mEnds.steps 8 (q' := (15, [some (.int 2), some (.int 0), some (.int 8)], [.int 1], hC0, 0, 0)) rfl ?_
      exact mEnds.ret rfl
    show mEnds [] 19 83 (17, [some (.int x1), some (.int 2), some (.int 0)], [.int 1], hC0, 0, 0) _
    refine mEnds.steps 4 (q' := (23, [some (.int x1), some (.int 2), some (.int 0)], [.int 1, .int 0, .int 0], hC0, 0, 0)) rfl ?_
    refine mEnds.call (d := 18) (y' := 105) (as := [.int 0, .int 0, .int 1]) (q' := (26, [some (.int x1), some (.int 2), some (.int 0)], [], hC0, 0, 0)) (v := some (.int 1)) (hs' := hC0) (c' := 0) (s' := 0) rfl rfl ?_ ?_
    · refine mEnds.steps 8 (q' := (15, [some (.int 0), some (.int 0), some (.int 1)], [.int 1], hC0, 0, 0)) rfl ?_
      exact mEnds.ret rfl
    show mEnds [] 19 83 (26, [some (.int x1), some (.int 2), some (.int 0)], [.int 1], hC0, 0, 0) _
    refine mEnds.steps 3 (q' := (34, [some (.int x1), some (.int 2), some (.int 0)], [.int 1], hC0, 0, 0)) rfl ?_
    exact mEnds.ret rfl
  show mEnds [] 20 82 (6, [some (.ref 1), some (.int x1), some (.int 2), some (.int 0)], [.int 1], hC0, 0, 0) _
  refine mEnds.steps 1 (q' := (13, [some (.ref 1), some (.int x1), some (.int 2), some (.int 0)], [], hC0, 0, 0)) rfl ?_
  refine mEnds.steps 6 (q' := (23, [some (.ref 1), some (.int x1), some (.int 2), some (.int 0)], [.ref 2, .ref 44], hC0, 0, 0)) rfl ?_
  refine mEnds.call (d := 19) (y' := 7) (as := [.ref 44, .ref 2]) (q' := (26, [some (.ref 1), some (.int x1), some (.int 2), some (.int 0)], [], hC0, 0, 0)) (v := none) (hs' := hC0) (c' := 0) (s' := 0) rfl rfl (mEnds.deep cpM 9) ?_
  show mEnds [] 20 82 (26, [some (.ref 1), some (.int x1), some (.int 2), some (.int 0)], [], hC0, 0, 0) _
  refine mEnds.steps 6 (q' := (33, [some (.ref 1), some (.int x1), some (.int 2), some (.int 0)], [.int 0, .int (-4), .int x1, .int 2, .int 0, .ref 1], hC0, 0, 0)) rfl ?_
  refine mEnds.call (d := 19) (y' := 84) (as := [.ref 1, .int 0, .int 2, .int x1, .int (-4), .int 0]) (q' := (36, [some (.ref 1), some (.int x1), some (.int 2), some (.int 0)], [], hC0, 0, 0)) (v := some (.long 0)) (hs' := hT M) (c' := 0) (s' := 0) rfl rfl hw ?_
  show mEnds [] 20 82 (36, [some (.ref 1), some (.int x1), some (.int 2), some (.int 0)], [.long 0], hT M, 0, 0) _
  refine mEnds.steps 1 (q' := (37, [some (.ref 1), some (.int x1), some (.int 2), some (.int 0)], [.int 2, .long 0], hT M, 0, 0)) rfl ?_
  refine mEnds.call (d := 19) (y' := 86) (as := [.int 2]) (q' := (40, [some (.ref 1), some (.int x1), some (.int 2), some (.int 0)], [.long 0], hT M, 0, 0)) (v := some (.long 100)) (hs' := hT M) (c' := 0) (s' := 0) rfl rfl (mEnds.deep (te2 _) 1) ?_
  show mEnds [] 20 82 (40, [some (.ref 1), some (.int x1), some (.int 2), some (.int 0)], [.long 100, .long 0], hT M, 0, 0) _
  refine mEnds.steps 1 (q' := (41, [some (.ref 1), some (.int x1), some (.int 2), some (.int 0)], [.int 0, .long 100, .long 0], hT M, 0, 0)) rfl ?_
  refine mEnds.call (d := 19) (y' := 87) (as := [.long 0, .long 100, .int 0]) (q' := (44, [some (.ref 1), some (.int x1), some (.int 2), some (.int 0)], [], hT M, 0, 0)) (v := some (.long 0)) (hs' := hT M) (c' := 0) (s' := 0) rfl rfl (mEnds.deep (of2_0 _) 1) ?_
  exact mEnds.ret rfl
set_option maxRecDepth 100000 in
theorem m25_FFFFFFv2v0 (x1 : Int32) (f0 : decide (x1 < 0) = false) (f1 : decide (10 < x1) = false) : ∃ hs', mEnds [] 20 167 (mentry 167 [.ref 1, .int x1, .int 2, .int 0] hM0) (some (.long 0), hs', 0, 0) := by
  refine ⟨(hB 2), ?_⟩
  refine mEnds.steps 4 (q' := (6, [some (.ref 1), some (.int x1), some (.int 2), some (.int 0)], [.long 10, .long 0, .long x1.toInt64], hM0, 0, 0)) rfl ?_
  refine mEnds.call (d := 19) (y' := 111) (as := [.long x1.toInt64, .long 0, .long 10]) (q' := (9, [some (.ref 1), some (.int x1), some (.int 2), some (.int 0)], [], hM0, 0, 0)) (v := some (.int 1)) (hs' := hM0) (c' := 0) (s' := 0) rfl rfl ?_ ?_
  · refine mEnds.steps 3 (q' := (3, [some (.long x1.toInt64), none, some (.long 0), none, some (.long 10), none], [.int (lg_cmp x1.toInt64 0)], hM0, 0, 0)) rfl ?_
    refine mEnds.brF (q' := (6, [some (.long x1.toInt64), none, some (.long 0), none, some (.long 10), none], [], hM0, 0, 0)) rfl (lgc_lt (c := 0) (by decide) f0) rfl ?_
    refine mEnds.steps 3 (q' := (10, [some (.long x1.toInt64), none, some (.long 0), none, some (.long 10), none], [.int (lg_cmp x1.toInt64 10)], hM0, 0, 0)) rfl ?_
    refine mEnds.brF (q' := (13, [some (.long x1.toInt64), none, some (.long 0), none, some (.long 10), none], [], hM0, 0, 0)) rfl (lgc_gt (c := 10) (by decide) f1) rfl ?_
    refine mEnds.steps 2 (q' := (18, [some (.long x1.toInt64), none, some (.long 0), none, some (.long 10), none], [.int 1], hM0, 0, 0)) rfl ?_
    exact mEnds.ret rfl
  show mEnds [] 20 167 (9, [some (.ref 1), some (.int x1), some (.int 2), some (.int 0)], [.int 1], hM0, 0, 0) _
  refine mEnds.steps 5 (q' := (18, [some (.ref 1), some (.int x1), some (.int 2), some (.int 0)], [.long 8, .long 0, .long 2], hM0, 0, 0)) rfl ?_
  refine mEnds.call (d := 19) (y' := 111) (as := [.long 2, .long 0, .long 8]) (q' := (21, [some (.ref 1), some (.int x1), some (.int 2), some (.int 0)], [], hM0, 0, 0)) (v := some (.int 1)) (hs' := hM0) (c' := 0) (s' := 0) rfl rfl ?_ ?_
  · refine mEnds.steps 10 (q' := (18, [some (.long 2), none, some (.long 0), none, some (.long 8), none], [.int 1], hM0, 0, 0)) rfl ?_
    exact mEnds.ret rfl
  show mEnds [] 20 167 (21, [some (.ref 1), some (.int x1), some (.int 2), some (.int 0)], [.int 1], hM0, 0, 0) _
  refine mEnds.steps 5 (q' := (28, [some (.ref 1), some (.int x1), some (.int 2), some (.int 0)], [.long 1, .long 0, .long 0], hM0, 0, 0)) rfl ?_
  refine mEnds.call (d := 19) (y' := 111) (as := [.long 0, .long 0, .long 1]) (q' := (31, [some (.ref 1), some (.int x1), some (.int 2), some (.int 0)], [], hM0, 0, 0)) (v := some (.int 1)) (hs' := hM0) (c' := 0) (s' := 0) rfl rfl ?_ ?_
  · refine mEnds.steps 10 (q' := (18, [some (.long 0), none, some (.long 0), none, some (.long 1), none], [.int 1], hM0, 0, 0)) rfl ?_
    exact mEnds.ret rfl
  show mEnds [] 20 167 (31, [some (.ref 1), some (.int x1), some (.int 2), some (.int 0)], [.int 1], hM0, 0, 0) _
  refine mEnds.steps 1 (q' := (34, [some (.ref 1), some (.int x1), some (.int 2), some (.int 0)], [], hM0, 0, 0)) rfl ?_
  refine mEnds.steps 6 (q' := (41, [some (.ref 1), some (.int x1), some (.int 2), some (.int 0)], [.int 0, .int 0, .int 2, .int (-4), .int x1, .ref 1], hM0, 0, 0)) rfl ?_
  refine mEnds.call (d := 19) (y' := 165) (as := [.ref 1, .int x1, .int (-4), .int 2, .int 0, .int 0]) (q' := (44, [some (.ref 1), some (.int x1), some (.int 2), some (.int 0)], [], hM0, 0, 0)) (v := some (.long 0)) (hs' := hB 2) (c' := 0) (s' := 0) rfl rfl (bf2_0 x1) ?_
  show mEnds [] 20 167 (44, [some (.ref 1), some (.int x1), some (.int 2), some (.int 0)], [.long 0], hB 2, 0, 0) _
  refine mEnds.steps 1 (q' := (50, [some (.ref 1), some (.int x1), some (.int 2), some (.int 0)], [.long 0], hB 2, 0, 0)) rfl ?_
  exact mEnds.ret rfl
set_option maxRecDepth 100000 in
theorem c25_FFFFFFv2v1 (x1 : Int32) (f0 : decide (x1 < 0) = false) (f1 : decide (10 < x1) = false) : ∃ hs', mEnds [] 20 82 (mentry 82 [.ref 1, .int x1, .int 2, .int 1] hC0) (some (.long 1), hs', 0, 0) := by
  obtain ⟨M, -, -, hw⟩ := wg0 (N := 2) (m := 0) x1 (by decide) (by decide) (by decide) (by decide)
  rw [hT_0] at hw
  refine ⟨(hT M), ?_⟩
  refine mEnds.steps 3 (q' := (3, [some (.ref 1), some (.int x1), some (.int 2), some (.int 1)], [.int 1, .int 2, .int x1], hC0, 0, 0)) rfl ?_
  refine mEnds.call (d := 19) (y' := 83) (as := [.int x1, .int 2, .int 1]) (q' := (6, [some (.ref 1), some (.int x1), some (.int 2), some (.int 1)], [], hC0, 0, 0)) (v := some (.int 1)) (hs' := hC0) (c' := 0) (s' := 0) rfl rfl ?_ ?_
  · refine mEnds.steps 3 (q' := (4, [some (.int x1), some (.int 2), some (.int 1)], [.int 10, .int 0, .int x1], hC0, 0, 0)) rfl ?_
    refine mEnds.call (d := 18) (y' := 105) (as := [.int x1, .int 0, .int 10]) (q' := (7, [some (.int x1), some (.int 2), some (.int 1)], [], hC0, 0, 0)) (v := some (.int 1)) (hs' := hC0) (c' := 0) (s' := 0) rfl rfl ?_ ?_
    · refine mEnds.steps 2 (q' := (2, [some (.int x1), some (.int 0), some (.int 10)], [.int 0, .int x1], hC0, 0, 0)) rfl ?_
      refine mEnds.brF (q' := (5, [some (.int x1), some (.int 0), some (.int 10)], [], hC0, 0, 0)) rfl f0 rfl ?_
      refine mEnds.steps 2 (q' := (7, [some (.int x1), some (.int 0), some (.int 10)], [.int 10, .int x1], hC0, 0, 0)) rfl ?_
      refine mEnds.brF (q' := (10, [some (.int x1), some (.int 0), some (.int 10)], [], hC0, 0, 0)) rfl f1 rfl ?_
      refine mEnds.steps 2 (q' := (15, [some (.int x1), some (.int 0), some (.int 10)], [.int 1], hC0, 0, 0)) rfl ?_
      exact mEnds.ret rfl
    show mEnds [] 19 83 (7, [some (.int x1), some (.int 2), some (.int 1)], [.int 1], hC0, 0, 0) _
    refine mEnds.steps 4 (q' := (14, [some (.int x1), some (.int 2), some (.int 1)], [.int 8, .int 0, .int 2], hC0, 0, 0)) rfl ?_
    refine mEnds.call (d := 18) (y' := 105) (as := [.int 2, .int 0, .int 8]) (q' := (17, [some (.int x1), some (.int 2), some (.int 1)], [], hC0, 0, 0)) (v := some (.int 1)) (hs' := hC0) (c' := 0) (s' := 0) rfl rfl ?_ ?_
    · refine mEnds.steps 8 (q' := (15, [some (.int 2), some (.int 0), some (.int 8)], [.int 1], hC0, 0, 0)) rfl ?_
      exact mEnds.ret rfl
    show mEnds [] 19 83 (17, [some (.int x1), some (.int 2), some (.int 1)], [.int 1], hC0, 0, 0) _
    refine mEnds.steps 4 (q' := (23, [some (.int x1), some (.int 2), some (.int 1)], [.int 1, .int 0, .int 1], hC0, 0, 0)) rfl ?_
    refine mEnds.call (d := 18) (y' := 105) (as := [.int 1, .int 0, .int 1]) (q' := (26, [some (.int x1), some (.int 2), some (.int 1)], [], hC0, 0, 0)) (v := some (.int 1)) (hs' := hC0) (c' := 0) (s' := 0) rfl rfl ?_ ?_
    · refine mEnds.steps 8 (q' := (15, [some (.int 1), some (.int 0), some (.int 1)], [.int 1], hC0, 0, 0)) rfl ?_
      exact mEnds.ret rfl
    show mEnds [] 19 83 (26, [some (.int x1), some (.int 2), some (.int 1)], [.int 1], hC0, 0, 0) _
    refine mEnds.steps 3 (q' := (34, [some (.int x1), some (.int 2), some (.int 1)], [.int 1], hC0, 0, 0)) rfl ?_
    exact mEnds.ret rfl
  show mEnds [] 20 82 (6, [some (.ref 1), some (.int x1), some (.int 2), some (.int 1)], [.int 1], hC0, 0, 0) _
  refine mEnds.steps 1 (q' := (13, [some (.ref 1), some (.int x1), some (.int 2), some (.int 1)], [], hC0, 0, 0)) rfl ?_
  refine mEnds.steps 6 (q' := (23, [some (.ref 1), some (.int x1), some (.int 2), some (.int 1)], [.ref 2, .ref 44], hC0, 0, 0)) rfl ?_
  refine mEnds.call (d := 19) (y' := 7) (as := [.ref 44, .ref 2]) (q' := (26, [some (.ref 1), some (.int x1), some (.int 2), some (.int 1)], [], hC0, 0, 0)) (v := none) (hs' := hC0) (c' := 0) (s' := 0) rfl rfl (mEnds.deep cpM 9) ?_
  show mEnds [] 20 82 (26, [some (.ref 1), some (.int x1), some (.int 2), some (.int 1)], [], hC0, 0, 0) _
  refine mEnds.steps 6 (q' := (33, [some (.ref 1), some (.int x1), some (.int 2), some (.int 1)], [.int 0, .int (-4), .int x1, .int 2, .int 0, .ref 1], hC0, 0, 0)) rfl ?_
  refine mEnds.call (d := 19) (y' := 84) (as := [.ref 1, .int 0, .int 2, .int x1, .int (-4), .int 0]) (q' := (36, [some (.ref 1), some (.int x1), some (.int 2), some (.int 1)], [], hC0, 0, 0)) (v := some (.long 0)) (hs' := hT M) (c' := 0) (s' := 0) rfl rfl hw ?_
  show mEnds [] 20 82 (36, [some (.ref 1), some (.int x1), some (.int 2), some (.int 1)], [.long 0], hT M, 0, 0) _
  refine mEnds.steps 1 (q' := (37, [some (.ref 1), some (.int x1), some (.int 2), some (.int 1)], [.int 2, .long 0], hT M, 0, 0)) rfl ?_
  refine mEnds.call (d := 19) (y' := 86) (as := [.int 2]) (q' := (40, [some (.ref 1), some (.int x1), some (.int 2), some (.int 1)], [.long 0], hT M, 0, 0)) (v := some (.long 100)) (hs' := hT M) (c' := 0) (s' := 0) rfl rfl (mEnds.deep (te2 _) 1) ?_
  show mEnds [] 20 82 (40, [some (.ref 1), some (.int x1), some (.int 2), some (.int 1)], [.long 100, .long 0], hT M, 0, 0) _
  refine mEnds.steps 1 (q' := (41, [some (.ref 1), some (.int x1), some (.int 2), some (.int 1)], [.int 1, .long 100, .long 0], hT M, 0, 0)) rfl ?_
  refine mEnds.call (d := 19) (y' := 87) (as := [.long 0, .long 100, .int 1]) (q' := (44, [some (.ref 1), some (.int x1), some (.int 2), some (.int 1)], [], hT M, 0, 0)) (v := some (.long 1)) (hs' := hT M) (c' := 0) (s' := 0) rfl rfl (mEnds.deep (of2_1 _) 1) ?_
  exact mEnds.ret rfl
set_option maxRecDepth 100000 in
theorem m25_FFFFFFv2v1 (x1 : Int32) (f0 : decide (x1 < 0) = false) (f1 : decide (10 < x1) = false) : ∃ hs', mEnds [] 20 167 (mentry 167 [.ref 1, .int x1, .int 2, .int 1] hM0) (some (.long 1), hs', 0, 0) := by
  refine ⟨(hB 2), ?_⟩
  refine mEnds.steps 4 (q' := (6, [some (.ref 1), some (.int x1), some (.int 2), some (.int 1)], [.long 10, .long 0, .long x1.toInt64], hM0, 0, 0)) rfl ?_
  refine mEnds.call (d := 19) (y' := 111) (as := [.long x1.toInt64, .long 0, .long 10]) (q' := (9, [some (.ref 1), some (.int x1), some (.int 2), some (.int 1)], [], hM0, 0, 0)) (v := some (.int 1)) (hs' := hM0) (c' := 0) (s' := 0) rfl rfl ?_ ?_
  · refine mEnds.steps 3 (q' := (3, [some (.long x1.toInt64), none, some (.long 0), none, some (.long 10), none], [.int (lg_cmp x1.toInt64 0)], hM0, 0, 0)) rfl ?_
    refine mEnds.brF (q' := (6, [some (.long x1.toInt64), none, some (.long 0), none, some (.long 10), none], [], hM0, 0, 0)) rfl (lgc_lt (c := 0) (by decide) f0) rfl ?_
    refine mEnds.steps 3 (q' := (10, [some (.long x1.toInt64), none, some (.long 0), none, some (.long 10), none], [.int (lg_cmp x1.toInt64 10)], hM0, 0, 0)) rfl ?_
    refine mEnds.brF (q' := (13, [some (.long x1.toInt64), none, some (.long 0), none, some (.long 10), none], [], hM0, 0, 0)) rfl (lgc_gt (c := 10) (by decide) f1) rfl ?_
    refine mEnds.steps 2 (q' := (18, [some (.long x1.toInt64), none, some (.long 0), none, some (.long 10), none], [.int 1], hM0, 0, 0)) rfl ?_
    exact mEnds.ret rfl
  show mEnds [] 20 167 (9, [some (.ref 1), some (.int x1), some (.int 2), some (.int 1)], [.int 1], hM0, 0, 0) _
  refine mEnds.steps 5 (q' := (18, [some (.ref 1), some (.int x1), some (.int 2), some (.int 1)], [.long 8, .long 0, .long 2], hM0, 0, 0)) rfl ?_
  refine mEnds.call (d := 19) (y' := 111) (as := [.long 2, .long 0, .long 8]) (q' := (21, [some (.ref 1), some (.int x1), some (.int 2), some (.int 1)], [], hM0, 0, 0)) (v := some (.int 1)) (hs' := hM0) (c' := 0) (s' := 0) rfl rfl ?_ ?_
  · refine mEnds.steps 10 (q' := (18, [some (.long 2), none, some (.long 0), none, some (.long 8), none], [.int 1], hM0, 0, 0)) rfl ?_
    exact mEnds.ret rfl
  show mEnds [] 20 167 (21, [some (.ref 1), some (.int x1), some (.int 2), some (.int 1)], [.int 1], hM0, 0, 0) _
  refine mEnds.steps 5 (q' := (28, [some (.ref 1), some (.int x1), some (.int 2), some (.int 1)], [.long 1, .long 0, .long 1], hM0, 0, 0)) rfl ?_
  refine mEnds.call (d := 19) (y' := 111) (as := [.long 1, .long 0, .long 1]) (q' := (31, [some (.ref 1), some (.int x1), some (.int 2), some (.int 1)], [], hM0, 0, 0)) (v := some (.int 1)) (hs' := hM0) (c' := 0) (s' := 0) rfl rfl ?_ ?_
  · refine mEnds.steps 10 (q' := (18, [some (.long 1), none, some (.long 0), none, some (.long 1), none], [.int 1], hM0, 0, 0)) rfl ?_
    exact mEnds.ret rfl
  show mEnds [] 20 167 (31, [some (.ref 1), some (.int x1), some (.int 2), some (.int 1)], [.int 1], hM0, 0, 0) _
  refine mEnds.steps 1 (q' := (34, [some (.ref 1), some (.int x1), some (.int 2), some (.int 1)], [], hM0, 0, 0)) rfl ?_
  refine mEnds.steps 6 (q' := (41, [some (.ref 1), some (.int x1), some (.int 2), some (.int 1)], [.int 1, .int 0, .int 2, .int (-4), .int x1, .ref 1], hM0, 0, 0)) rfl ?_
  refine mEnds.call (d := 19) (y' := 165) (as := [.ref 1, .int x1, .int (-4), .int 2, .int 0, .int 1]) (q' := (44, [some (.ref 1), some (.int x1), some (.int 2), some (.int 1)], [], hM0, 0, 0)) (v := some (.long 1)) (hs' := hB 2) (c' := 0) (s' := 0) rfl rfl (bf2_1 x1) ?_
  show mEnds [] 20 167 (44, [some (.ref 1), some (.int x1), some (.int 2), some (.int 1)], [.long 1], hB 2, 0, 0) _
  refine mEnds.steps 1 (q' := (50, [some (.ref 1), some (.int x1), some (.int 2), some (.int 1)], [.long 1], hB 2, 0, 0)) rfl ?_
  exact mEnds.ret rfl
set_option maxRecDepth 100000 in
theorem c25_FFFFFFv3v0 (x1 : Int32) (f0 : decide (x1 < 0) = false) (f1 : decide (10 < x1) = false) : ∃ hs', mEnds [] 20 82 (mentry 82 [.ref 1, .int x1, .int 3, .int 0] hC0) (some (.long 0), hs', 0, 0) := by
  obtain ⟨M, -, -, hw⟩ := wg0 (N := 3) (m := 0) x1 (by decide) (by decide) (by decide) (by decide)
  rw [hT_0] at hw
  refine ⟨(hT M), ?_⟩
  refine mEnds.steps 3 (q' := (3, [some (.ref 1), some (.int x1), some (.int 3), some (.int 0)], [.int 0, .int 3, .int x1], hC0, 0, 0)) rfl ?_
  refine mEnds.call (d := 19) (y' := 83) (as := [.int x1, .int 3, .int 0]) (q' := (6, [some (.ref 1), some (.int x1), some (.int 3), some (.int 0)], [], hC0, 0, 0)) (v := some (.int 1)) (hs' := hC0) (c' := 0) (s' := 0) rfl rfl ?_ ?_
  · refine mEnds.steps 3 (q' := (4, [some (.int x1), some (.int 3), some (.int 0)], [.int 10, .int 0, .int x1], hC0, 0, 0)) rfl ?_
    refine mEnds.call (d := 18) (y' := 105) (as := [.int x1, .int 0, .int 10]) (q' := (7, [some (.int x1), some (.int 3), some (.int 0)], [], hC0, 0, 0)) (v := some (.int 1)) (hs' := hC0) (c' := 0) (s' := 0) rfl rfl ?_ ?_
    · refine mEnds.steps 2 (q' := (2, [some (.int x1), some (.int 0), some (.int 10)], [.int 0, .int x1], hC0, 0, 0)) rfl ?_
      refine mEnds.brF (q' := (5, [some (.int x1), some (.int 0), some (.int 10)], [], hC0, 0, 0)) rfl f0 rfl ?_
      refine mEnds.steps 2 (q' := (7, [some (.int x1), some (.int 0), some (.int 10)], [.int 10, .int x1], hC0, 0, 0)) rfl ?_
      refine mEnds.brF (q' := (10, [some (.int x1), some (.int 0), some (.int 10)], [], hC0, 0, 0)) rfl f1 rfl ?_
      refine mEnds.steps 2 (q' := (15, [some (.int x1), some (.int 0), some (.int 10)], [.int 1], hC0, 0, 0)) rfl ?_
      exact mEnds.ret rfl
    show mEnds [] 19 83 (7, [some (.int x1), some (.int 3), some (.int 0)], [.int 1], hC0, 0, 0) _
    refine mEnds.steps 4 (q' := (14, [some (.int x1), some (.int 3), some (.int 0)], [.int 8, .int 0, .int 3], hC0, 0, 0)) rfl ?_
    refine mEnds.call (d := 18) (y' := 105) (as := [.int 3, .int 0, .int 8]) (q' := (17, [some (.int x1), some (.int 3), some (.int 0)], [], hC0, 0, 0)) (v := some (.int 1)) (hs' := hC0) (c' := 0) (s' := 0) rfl rfl ?_ ?_
    · refine mEnds.steps 8 (q' := (15, [some (.int 3), some (.int 0), some (.int 8)], [.int 1], hC0, 0, 0)) rfl ?_
      exact mEnds.ret rfl
    show mEnds [] 19 83 (17, [some (.int x1), some (.int 3), some (.int 0)], [.int 1], hC0, 0, 0) _
    refine mEnds.steps 4 (q' := (23, [some (.int x1), some (.int 3), some (.int 0)], [.int 1, .int 0, .int 0], hC0, 0, 0)) rfl ?_
    refine mEnds.call (d := 18) (y' := 105) (as := [.int 0, .int 0, .int 1]) (q' := (26, [some (.int x1), some (.int 3), some (.int 0)], [], hC0, 0, 0)) (v := some (.int 1)) (hs' := hC0) (c' := 0) (s' := 0) rfl rfl ?_ ?_
    · refine mEnds.steps 8 (q' := (15, [some (.int 0), some (.int 0), some (.int 1)], [.int 1], hC0, 0, 0)) rfl ?_
      exact mEnds.ret rfl
    show mEnds [] 19 83 (26, [some (.int x1), some (.int 3), some (.int 0)], [.int 1], hC0, 0, 0) _
    refine mEnds.steps 3 (q' := (34, [some (.int x1), some (.int 3), some (.int 0)], [.int 1], hC0, 0, 0)) rfl ?_
    exact mEnds.ret rfl
  show mEnds [] 20 82 (6, [some (.ref 1), some (.int x1), some (.int 3), some (.int 0)], [.int 1], hC0, 0, 0) _
  refine mEnds.steps 1 (q' := (13, [some (.ref 1), some (.int x1), some (.int 3), some (.int 0)], [], hC0, 0, 0)) rfl ?_
  refine mEnds.steps 6 (q' := (23, [some (.ref 1), some (.int x1), some (.int 3), some (.int 0)], [.ref 2, .ref 44], hC0, 0, 0)) rfl ?_
  refine mEnds.call (d := 19) (y' := 7) (as := [.ref 44, .ref 2]) (q' := (26, [some (.ref 1), some (.int x1), some (.int 3), some (.int 0)], [], hC0, 0, 0)) (v := none) (hs' := hC0) (c' := 0) (s' := 0) rfl rfl (mEnds.deep cpM 9) ?_
  show mEnds [] 20 82 (26, [some (.ref 1), some (.int x1), some (.int 3), some (.int 0)], [], hC0, 0, 0) _
  refine mEnds.steps 6 (q' := (33, [some (.ref 1), some (.int x1), some (.int 3), some (.int 0)], [.int 0, .int (-4), .int x1, .int 3, .int 0, .ref 1], hC0, 0, 0)) rfl ?_
  refine mEnds.call (d := 19) (y' := 84) (as := [.ref 1, .int 0, .int 3, .int x1, .int (-4), .int 0]) (q' := (36, [some (.ref 1), some (.int x1), some (.int 3), some (.int 0)], [], hC0, 0, 0)) (v := some (.long 0)) (hs' := hT M) (c' := 0) (s' := 0) rfl rfl hw ?_
  show mEnds [] 20 82 (36, [some (.ref 1), some (.int x1), some (.int 3), some (.int 0)], [.long 0], hT M, 0, 0) _
  refine mEnds.steps 1 (q' := (37, [some (.ref 1), some (.int x1), some (.int 3), some (.int 0)], [.int 3, .long 0], hT M, 0, 0)) rfl ?_
  refine mEnds.call (d := 19) (y' := 86) (as := [.int 3]) (q' := (40, [some (.ref 1), some (.int x1), some (.int 3), some (.int 0)], [.long 0], hT M, 0, 0)) (v := some (.long 1000)) (hs' := hT M) (c' := 0) (s' := 0) rfl rfl (mEnds.deep (te3 _) 1) ?_
  show mEnds [] 20 82 (40, [some (.ref 1), some (.int x1), some (.int 3), some (.int 0)], [.long 1000, .long 0], hT M, 0, 0) _
  refine mEnds.steps 1 (q' := (41, [some (.ref 1), some (.int x1), some (.int 3), some (.int 0)], [.int 0, .long 1000, .long 0], hT M, 0, 0)) rfl ?_
  refine mEnds.call (d := 19) (y' := 87) (as := [.long 0, .long 1000, .int 0]) (q' := (44, [some (.ref 1), some (.int x1), some (.int 3), some (.int 0)], [], hT M, 0, 0)) (v := some (.long 0)) (hs' := hT M) (c' := 0) (s' := 0) rfl rfl (mEnds.deep (of3_0 _) 1) ?_
  exact mEnds.ret rfl
set_option maxRecDepth 100000 in
theorem m25_FFFFFFv3v0 (x1 : Int32) (f0 : decide (x1 < 0) = false) (f1 : decide (10 < x1) = false) : ∃ hs', mEnds [] 20 167 (mentry 167 [.ref 1, .int x1, .int 3, .int 0] hM0) (some (.long 0), hs', 0, 0) := by
  refine ⟨(hB 3), ?_⟩
  refine mEnds.steps 4 (q' := (6, [some (.ref 1), some (.int x1), some (.int 3), some (.int 0)], [.long 10, .long 0, .long x1.toInt64], hM0, 0, 0)) rfl ?_
  refine mEnds.call (d := 19) (y' := 111) (as := [.long x1.toInt64, .long 0, .long 10]) (q' := (9, [some (.ref 1), some (.int x1), some (.int 3), some (.int 0)], [], hM0, 0, 0)) (v := some (.int 1)) (hs' := hM0) (c' := 0) (s' := 0) rfl rfl ?_ ?_
  · refine mEnds.steps 3 (q' := (3, [some (.long x1.toInt64), none, some (.long 0), none, some (.long 10), none], [.int (lg_cmp x1.toInt64 0)], hM0, 0, 0)) rfl ?_
    refine mEnds.brF (q' := (6, [some (.long x1.toInt64), none, some (.long 0), none, some (.long 10), none], [], hM0, 0, 0)) rfl (lgc_lt (c := 0) (by decide) f0) rfl ?_
    refine mEnds.steps 3 (q' := (10, [some (.long x1.toInt64), none, some (.long 0), none, some (.long 10), none], [.int (lg_cmp x1.toInt64 10)], hM0, 0, 0)) rfl ?_
    refine mEnds.brF (q' := (13, [some (.long x1.toInt64), none, some (.long 0), none, some (.long 10), none], [], hM0, 0, 0)) rfl (lgc_gt (c := 10) (by decide) f1) rfl ?_
    refine mEnds.steps 2 (q' := (18, [some (.long x1.toInt64), none, some (.long 0), none, some (.long 10), none], [.int 1], hM0, 0, 0)) rfl ?_
    exact mEnds.ret rfl
  show mEnds [] 20 167 (9, [some (.ref 1), some (.int x1), some (.int 3), some (.int 0)], [.int 1], hM0, 0, 0) _
  refine mEnds.steps 5 (q' := (18, [some (.ref 1), some (.int x1), some (.int 3), some (.int 0)], [.long 8, .long 0, .long 3], hM0, 0, 0)) rfl ?_
  refine mEnds.call (d := 19) (y' := 111) (as := [.long 3, .long 0, .long 8]) (q' := (21, [some (.ref 1), some (.int x1), some (.int 3), some (.int 0)], [], hM0, 0, 0)) (v := some (.int 1)) (hs' := hM0) (c' := 0) (s' := 0) rfl rfl ?_ ?_
  · refine mEnds.steps 10 (q' := (18, [some (.long 3), none, some (.long 0), none, some (.long 8), none], [.int 1], hM0, 0, 0)) rfl ?_
    exact mEnds.ret rfl
  show mEnds [] 20 167 (21, [some (.ref 1), some (.int x1), some (.int 3), some (.int 0)], [.int 1], hM0, 0, 0) _
  refine mEnds.steps 5 (q' := (28, [some (.ref 1), some (.int x1), some (.int 3), some (.int 0)], [.long 1, .long 0, .long 0], hM0, 0, 0)) rfl ?_
  refine mEnds.call (d := 19) (y' := 111) (as := [.long 0, .long 0, .long 1]) (q' := (31, [some (.ref 1), some (.int x1), some (.int 3), some (.int 0)], [], hM0, 0, 0)) (v := some (.int 1)) (hs' := hM0) (c' := 0) (s' := 0) rfl rfl ?_ ?_
  · refine mEnds.steps 10 (q' := (18, [some (.long 0), none, some (.long 0), none, some (.long 1), none], [.int 1], hM0, 0, 0)) rfl ?_
    exact mEnds.ret rfl
  show mEnds [] 20 167 (31, [some (.ref 1), some (.int x1), some (.int 3), some (.int 0)], [.int 1], hM0, 0, 0) _
  refine mEnds.steps 1 (q' := (34, [some (.ref 1), some (.int x1), some (.int 3), some (.int 0)], [], hM0, 0, 0)) rfl ?_
  refine mEnds.steps 6 (q' := (41, [some (.ref 1), some (.int x1), some (.int 3), some (.int 0)], [.int 0, .int 0, .int 3, .int (-4), .int x1, .ref 1], hM0, 0, 0)) rfl ?_
  refine mEnds.call (d := 19) (y' := 165) (as := [.ref 1, .int x1, .int (-4), .int 3, .int 0, .int 0]) (q' := (44, [some (.ref 1), some (.int x1), some (.int 3), some (.int 0)], [], hM0, 0, 0)) (v := some (.long 0)) (hs' := hB 3) (c' := 0) (s' := 0) rfl rfl (bf3_0 x1) ?_
  show mEnds [] 20 167 (44, [some (.ref 1), some (.int x1), some (.int 3), some (.int 0)], [.long 0], hB 3, 0, 0) _
  refine mEnds.steps 1 (q' := (50, [some (.ref 1), some (.int x1), some (.int 3), some (.int 0)], [.long 0], hB 3, 0, 0)) rfl ?_
  exact mEnds.ret rfl
set_option maxRecDepth 100000 in
theorem c25_FFFFFFv3v1 (x1 : Int32) (f0 : decide (x1 < 0) = false) (f1 : decide (10 < x1) = false) : ∃ hs', mEnds [] 20 82 (mentry 82 [.ref 1, .int x1, .int 3, .int 1] hC0) (some (.long 1), hs', 0, 0) := by
  obtain ⟨M, -, -, hw⟩ := wg0 (N := 3) (m := 0) x1 (by decide) (by decide) (by decide) (by decide)
  rw [hT_0] at hw
  refine ⟨(hT M), ?_⟩
  refine mEnds.steps 3 (q' := (3, [some (.ref 1), some (.int x1), some (.int 3), some (.int 1)], [.int 1, .int 3, .int x1], hC0, 0, 0)) rfl ?_
  refine mEnds.call (d := 19) (y' := 83) (as := [.int x1, .int 3, .int 1]) (q' := (6, [some (.ref 1), some (.int x1), some (.int 3), some (.int 1)], [], hC0, 0, 0)) (v := some (.int 1)) (hs' := hC0) (c' := 0) (s' := 0) rfl rfl ?_ ?_
  · refine mEnds.steps 3 (q' := (4, [some (.int x1), some (.int 3), some (.int 1)], [.int 10, .int 0, .int x1], hC0, 0, 0)) rfl ?_
    refine mEnds.call (d := 18) (y' := 105) (as := [.int x1, .int 0, .int 10]) (q' := (7, [some (.int x1), some (.int 3), some (.int 1)], [], hC0, 0, 0)) (v := some (.int 1)) (hs' := hC0) (c' := 0) (s' := 0) rfl rfl ?_ ?_
    · refine mEnds.steps 2 (q' := (2, [some (.int x1), some (.int 0), some (.int 10)], [.int 0, .int x1], hC0, 0, 0)) rfl ?_
      refine mEnds.brF (q' := (5, [some (.int x1), some (.int 0), some (.int 10)], [], hC0, 0, 0)) rfl f0 rfl ?_
      refine mEnds.steps 2 (q' := (7, [some (.int x1), some (.int 0), some (.int 10)], [.int 10, .int x1], hC0, 0, 0)) rfl ?_
      refine mEnds.brF (q' := (10, [some (.int x1), some (.int 0), some (.int 10)], [], hC0, 0, 0)) rfl f1 rfl ?_
      refine mEnds.steps 2 (q' := (15, [some (.int x1), some (.int 0), some (.int 10)], [.int 1], hC0, 0, 0)) rfl ?_
      exact mEnds.ret rfl
    show mEnds [] 19 83 (7, [some (.int x1), some (.int 3), some (.int 1)], [.int 1], hC0, 0, 0) _
    refine mEnds.steps 4 (q' := (14, [some (.int x1), some (.int 3), some (.int 1)], [.int 8, .int 0, .int 3], hC0, 0, 0)) rfl ?_
    refine mEnds.call (d := 18) (y' := 105) (as := [.int 3, .int 0, .int 8]) (q' := (17, [some (.int x1), some (.int 3), some (.int 1)], [], hC0, 0, 0)) (v := some (.int 1)) (hs' := hC0) (c' := 0) (s' := 0) rfl rfl ?_ ?_
    · refine mEnds.steps 8 (q' := (15, [some (.int 3), some (.int 0), some (.int 8)], [.int 1], hC0, 0, 0)) rfl ?_
      exact mEnds.ret rfl
    show mEnds [] 19 83 (17, [some (.int x1), some (.int 3), some (.int 1)], [.int 1], hC0, 0, 0) _
    refine mEnds.steps 4 (q' := (23, [some (.int x1), some (.int 3), some (.int 1)], [.int 1, .int 0, .int 1], hC0, 0, 0)) rfl ?_
    refine mEnds.call (d := 18) (y' := 105) (as := [.int 1, .int 0, .int 1]) (q' := (26, [some (.int x1), some (.int 3), some (.int 1)], [], hC0, 0, 0)) (v := some (.int 1)) (hs' := hC0) (c' := 0) (s' := 0) rfl rfl ?_ ?_
    · refine mEnds.steps 8 (q' := (15, [some (.int 1), some (.int 0), some (.int 1)], [.int 1], hC0, 0, 0)) rfl ?_
      exact mEnds.ret rfl
    show mEnds [] 19 83 (26, [some (.int x1), some (.int 3), some (.int 1)], [.int 1], hC0, 0, 0) _
    refine mEnds.steps 3 (q' := (34, [some (.int x1), some (.int 3), some (.int 1)], [.int 1], hC0, 0, 0)) rfl ?_
    exact mEnds.ret rfl
  show mEnds [] 20 82 (6, [some (.ref 1), some (.int x1), some (.int 3), some (.int 1)], [.int 1], hC0, 0, 0) _
  refine mEnds.steps 1 (q' := (13, [some (.ref 1), some (.int x1), some (.int 3), some (.int 1)], [], hC0, 0, 0)) rfl ?_
  refine mEnds.steps 6 (q' := (23, [some (.ref 1), some (.int x1), some (.int 3), some (.int 1)], [.ref 2, .ref 44], hC0, 0, 0)) rfl ?_
  refine mEnds.call (d := 19) (y' := 7) (as := [.ref 44, .ref 2]) (q' := (26, [some (.ref 1), some (.int x1), some (.int 3), some (.int 1)], [], hC0, 0, 0)) (v := none) (hs' := hC0) (c' := 0) (s' := 0) rfl rfl (mEnds.deep cpM 9) ?_
  show mEnds [] 20 82 (26, [some (.ref 1), some (.int x1), some (.int 3), some (.int 1)], [], hC0, 0, 0) _
  refine mEnds.steps 6 (q' := (33, [some (.ref 1), some (.int x1), some (.int 3), some (.int 1)], [.int 0, .int (-4), .int x1, .int 3, .int 0, .ref 1], hC0, 0, 0)) rfl ?_
  refine mEnds.call (d := 19) (y' := 84) (as := [.ref 1, .int 0, .int 3, .int x1, .int (-4), .int 0]) (q' := (36, [some (.ref 1), some (.int x1), some (.int 3), some (.int 1)], [], hC0, 0, 0)) (v := some (.long 0)) (hs' := hT M) (c' := 0) (s' := 0) rfl rfl hw ?_
  show mEnds [] 20 82 (36, [some (.ref 1), some (.int x1), some (.int 3), some (.int 1)], [.long 0], hT M, 0, 0) _
  refine mEnds.steps 1 (q' := (37, [some (.ref 1), some (.int x1), some (.int 3), some (.int 1)], [.int 3, .long 0], hT M, 0, 0)) rfl ?_
  refine mEnds.call (d := 19) (y' := 86) (as := [.int 3]) (q' := (40, [some (.ref 1), some (.int x1), some (.int 3), some (.int 1)], [.long 0], hT M, 0, 0)) (v := some (.long 1000)) (hs' := hT M) (c' := 0) (s' := 0) rfl rfl (mEnds.deep (te3 _) 1) ?_
  show mEnds [] 20 82 (40, [some (.ref 1), some (.int x1), some (.int 3), some (.int 1)], [.long 1000, .long 0], hT M, 0, 0) _
  refine mEnds.steps 1 (q' := (41, [some (.ref 1), some (.int x1), some (.int 3), some (.int 1)], [.int 1, .long 1000, .long 0], hT M, 0, 0)) rfl ?_
  refine mEnds.call (d := 19) (y' := 87) (as := [.long 0, .long 1000, .int 1]) (q' := (44, [some (.ref 1), some (.int x1), some (.int 3), some (.int 1)], [], hT M, 0, 0)) (v := some (.long 1)) (hs' := hT M) (c' := 0) (s' := 0) rfl rfl (mEnds.deep (of3_1 _) 1) ?_
  exact mEnds.ret rfl
set_option maxRecDepth 100000 in
theorem m25_FFFFFFv3v1 (x1 : Int32) (f0 : decide (x1 < 0) = false) (f1 : decide (10 < x1) = false) : ∃ hs', mEnds [] 20 167 (mentry 167 [.ref 1, .int x1, .int 3, .int 1] hM0) (some (.long 1), hs', 0, 0) := by
  refine ⟨(hB 3), ?_⟩
  refine mEnds.steps 4 (q' := (6, [some (.ref 1), some (.int x1), some (.int 3), some (.int 1)], [.long 10, .long 0, .long x1.toInt64], hM0, 0, 0)) rfl ?_
  refine mEnds.call (d := 19) (y' := 111) (as := [.long x1.toInt64, .long 0, .long 10]) (q' := (9, [some (.ref 1), some (.int x1), some (.int 3), some (.int 1)], [], hM0, 0, 0)) (v := some (.int 1)) (hs' := hM0) (c' := 0) (s' := 0) rfl rfl ?_ ?_
  · refine mEnds.steps 3 (q' := (3, [some (.long x1.toInt64), none, some (.long 0), none, some (.long 10), none], [.int (lg_cmp x1.toInt64 0)], hM0, 0, 0)) rfl ?_
    refine mEnds.brF (q' := (6, [some (.long x1.toInt64), none, some (.long 0), none, some (.long 10), none], [], hM0, 0, 0)) rfl (lgc_lt (c := 0) (by decide) f0) rfl ?_
    refine mEnds.steps 3 (q' := (10, [some (.long x1.toInt64), none, some (.long 0), none, some (.long 10), none], [.int (lg_cmp x1.toInt64 10)], hM0, 0, 0)) rfl ?_
    refine mEnds.brF (q' := (13, [some (.long x1.toInt64), none, some (.long 0), none, some (.long 10), none], [], hM0, 0, 0)) rfl (lgc_gt (c := 10) (by decide) f1) rfl ?_
    refine mEnds.steps 2 (q' := (18, [some (.long x1.toInt64), none, some (.long 0), none, some (.long 10), none], [.int 1], hM0, 0, 0)) rfl ?_
    exact mEnds.ret rfl
  show mEnds [] 20 167 (9, [some (.ref 1), some (.int x1), some (.int 3), some (.int 1)], [.int 1], hM0, 0, 0) _
  refine mEnds.steps 5 (q' := (18, [some (.ref 1), some (.int x1), some (.int 3), some (.int 1)], [.long 8, .long 0, .long 3], hM0, 0, 0)) rfl ?_
  refine mEnds.call (d := 19) (y' := 111) (as := [.long 3, .long 0, .long 8]) (q' := (21, [some (.ref 1), some (.int x1), some (.int 3), some (.int 1)], [], hM0, 0, 0)) (v := some (.int 1)) (hs' := hM0) (c' := 0) (s' := 0) rfl rfl ?_ ?_
  · refine mEnds.steps 10 (q' := (18, [some (.long 3), none, some (.long 0), none, some (.long 8), none], [.int 1], hM0, 0, 0)) rfl ?_
    exact mEnds.ret rfl
  show mEnds [] 20 167 (21, [some (.ref 1), some (.int x1), some (.int 3), some (.int 1)], [.int 1], hM0, 0, 0) _
  refine mEnds.steps 5 (q' := (28, [some (.ref 1), some (.int x1), some (.int 3), some (.int 1)], [.long 1, .long 0, .long 1], hM0, 0, 0)) rfl ?_
  refine mEnds.call (d := 19) (y' := 111) (as := [.long 1, .long 0, .long 1]) (q' := (31, [some (.ref 1), some (.int x1), some (.int 3), some (.int 1)], [], hM0, 0, 0)) (v := some (.int 1)) (hs' := hM0) (c' := 0) (s' := 0) rfl rfl ?_ ?_
  · refine mEnds.steps 10 (q' := (18, [some (.long 1), none, some (.long 0), none, some (.long 1), none], [.int 1], hM0, 0, 0)) rfl ?_
    exact mEnds.ret rfl
  show mEnds [] 20 167 (31, [some (.ref 1), some (.int x1), some (.int 3), some (.int 1)], [.int 1], hM0, 0, 0) _
  refine mEnds.steps 1 (q' := (34, [some (.ref 1), some (.int x1), some (.int 3), some (.int 1)], [], hM0, 0, 0)) rfl ?_
  refine mEnds.steps 6 (q' := (41, [some (.ref 1), some (.int x1), some (.int 3), some (.int 1)], [.int 1, .int 0, .int 3, .int (-4), .int x1, .ref 1], hM0, 0, 0)) rfl ?_
  refine mEnds.call (d := 19) (y' := 165) (as := [.ref 1, .int x1, .int (-4), .int 3, .int 0, .int 1]) (q' := (44, [some (.ref 1), some (.int x1), some (.int 3), some (.int 1)], [], hM0, 0, 0)) (v := some (.long 1)) (hs' := hB 3) (c' := 0) (s' := 0) rfl rfl (bf3_1 x1) ?_
  show mEnds [] 20 167 (44, [some (.ref 1), some (.int x1), some (.int 3), some (.int 1)], [.long 1], hB 3, 0, 0) _
  refine mEnds.steps 1 (q' := (50, [some (.ref 1), some (.int x1), some (.int 3), some (.int 1)], [.long 1], hB 3, 0, 0)) rfl ?_
  exact mEnds.ret rfl
set_option maxRecDepth 100000 in
theorem c25_FFFFFFv4v0 (x1 : Int32) (f0 : decide (x1 < 0) = false) (f1 : decide (10 < x1) = false) : ∃ hs', mEnds [] 20 82 (mentry 82 [.ref 1, .int x1, .int 4, .int 0] hC0) (some (.long 0), hs', 0, 0) := by
  obtain ⟨M, -, -, hw⟩ := wg0 (N := 4) (m := 0) x1 (by decide) (by decide) (by decide) (by decide)
  rw [hT_0] at hw
  refine ⟨(hT M), ?_⟩
  refine mEnds.steps 3 (q' := (3, [some (.ref 1), some (.int x1), some (.int 4), some (.int 0)], [.int 0, .int 4, .int x1], hC0, 0, 0)) rfl ?_
  refine mEnds.call (d := 19) (y' := 83) (as := [.int x1, .int 4, .int 0]) (q' := (6, [some (.ref 1), some (.int x1), some (.int 4), some (.int 0)], [], hC0, 0, 0)) (v := some (.int 1)) (hs' := hC0) (c' := 0) (s' := 0) rfl rfl ?_ ?_
  · refine mEnds.steps 3 (q' := (4, [some (.int x1), some (.int 4), some (.int 0)], [.int 10, .int 0, .int x1], hC0, 0, 0)) rfl ?_
    refine mEnds.call (d := 18) (y' := 105) (as := [.int x1, .int 0, .int 10]) (q' := (7, [some (.int x1), some (.int 4), some (.int 0)], [], hC0, 0, 0)) (v := some (.int 1)) (hs' := hC0) (c' := 0) (s' := 0) rfl rfl ?_ ?_
    · refine mEnds.steps 2 (q' := (2, [some (.int x1), some (.int 0), some (.int 10)], [.int 0, .int x1], hC0, 0, 0)) rfl ?_
      refine mEnds.brF (q' := (5, [some (.int x1), some (.int 0), some (.int 10)], [], hC0, 0, 0)) rfl f0 rfl ?_
      refine mEnds.steps 2 (q' := (7, [some (.int x1), some (.int 0), some (.int 10)], [.int 10, .int x1], hC0, 0, 0)) rfl ?_
      refine mEnds.brF (q' := (10, [some (.int x1), some (.int 0), some (.int 10)], [], hC0, 0, 0)) rfl f1 rfl ?_
      refine mEnds.steps 2 (q' := (15, [some (.int x1), some (.int 0), some (.int 10)], [.int 1], hC0, 0, 0)) rfl ?_
      exact mEnds.ret rfl
    show mEnds [] 19 83 (7, [some (.int x1), some (.int 4), some (.int 0)], [.int 1], hC0, 0, 0) _
    refine mEnds.steps 4 (q' := (14, [some (.int x1), some (.int 4), some (.int 0)], [.int 8, .int 0, .int 4], hC0, 0, 0)) rfl ?_
    refine mEnds.call (d := 18) (y' := 105) (as := [.int 4, .int 0, .int 8]) (q' := (17, [some (.int x1), some (.int 4), some (.int 0)], [], hC0, 0, 0)) (v := some (.int 1)) (hs' := hC0) (c' := 0) (s' := 0) rfl rfl ?_ ?_
    · refine mEnds.steps 8 (q' := (15, [some (.int 4), some (.int 0), some (.int 8)], [.int 1], hC0, 0, 0)) rfl ?_
      exact mEnds.ret rfl
    show mEnds [] 19 83 (17, [some (.int x1), some (.int 4), some (.int 0)], [.int 1], hC0, 0, 0) _
    refine mEnds.steps 4 (q' := (23, [some (.int x1), some (.int 4), some (.int 0)], [.int 1, .int 0, .int 0], hC0, 0, 0)) rfl ?_
    refine mEnds.call (d := 18) (y' := 105) (as := [.int 0, .int 0, .int 1]) (q' := (26, [some (.int x1), some (.int 4), some (.int 0)], [], hC0, 0, 0)) (v := some (.int 1)) (hs' := hC0) (c' := 0) (s' := 0) rfl rfl ?_ ?_
    · refine mEnds.steps 8 (q' := (15, [some (.int 0), some (.int 0), some (.int 1)], [.int 1], hC0, 0, 0)) rfl ?_
      exact mEnds.ret rfl
    show mEnds [] 19 83 (26, [some (.int x1), some (.int 4), some (.int 0)], [.int 1], hC0, 0, 0) _
    refine mEnds.steps 3 (q' := (34, [some (.int x1), some (.int 4), some (.int 0)], [.int 1], hC0, 0, 0)) rfl ?_
    exact mEnds.ret rfl
  show mEnds [] 20 82 (6, [some (.ref 1), some (.int x1), some (.int 4), some (.int 0)], [.int 1], hC0, 0, 0) _
  refine mEnds.steps 1 (q' := (13, [some (.ref 1), some (.int x1), some (.int 4), some (.int 0)], [], hC0, 0, 0)) rfl ?_
  refine mEnds.steps 6 (q' := (23, [some (.ref 1), some (.int x1), some (.int 4), some (.int 0)], [.ref 2, .ref 44], hC0, 0, 0)) rfl ?_
  refine mEnds.call (d := 19) (y' := 7) (as := [.ref 44, .ref 2]) (q' := (26, [some (.ref 1), some (.int x1), some (.int 4), some (.int 0)], [], hC0, 0, 0)) (v := none) (hs' := hC0) (c' := 0) (s' := 0) rfl rfl (mEnds.deep cpM 9) ?_
  show mEnds [] 20 82 (26, [some (.ref 1), some (.int x1), some (.int 4), some (.int 0)], [], hC0, 0, 0) _
  refine mEnds.steps 6 (q' := (33, [some (.ref 1), some (.int x1), some (.int 4), some (.int 0)], [.int 0, .int (-4), .int x1, .int 4, .int 0, .ref 1], hC0, 0, 0)) rfl ?_
  refine mEnds.call (d := 19) (y' := 84) (as := [.ref 1, .int 0, .int 4, .int x1, .int (-4), .int 0]) (q' := (36, [some (.ref 1), some (.int x1), some (.int 4), some (.int 0)], [], hC0, 0, 0)) (v := some (.long 0)) (hs' := hT M) (c' := 0) (s' := 0) rfl rfl hw ?_
  show mEnds [] 20 82 (36, [some (.ref 1), some (.int x1), some (.int 4), some (.int 0)], [.long 0], hT M, 0, 0) _
  refine mEnds.steps 1 (q' := (37, [some (.ref 1), some (.int x1), some (.int 4), some (.int 0)], [.int 4, .long 0], hT M, 0, 0)) rfl ?_
  refine mEnds.call (d := 19) (y' := 86) (as := [.int 4]) (q' := (40, [some (.ref 1), some (.int x1), some (.int 4), some (.int 0)], [.long 0], hT M, 0, 0)) (v := some (.long 10000)) (hs' := hT M) (c' := 0) (s' := 0) rfl rfl (mEnds.deep (te4 _) 1) ?_
  show mEnds [] 20 82 (40, [some (.ref 1), some (.int x1), some (.int 4), some (.int 0)], [.long 10000, .long 0], hT M, 0, 0) _
  refine mEnds.steps 1 (q' := (41, [some (.ref 1), some (.int x1), some (.int 4), some (.int 0)], [.int 0, .long 10000, .long 0], hT M, 0, 0)) rfl ?_
  refine mEnds.call (d := 19) (y' := 87) (as := [.long 0, .long 10000, .int 0]) (q' := (44, [some (.ref 1), some (.int x1), some (.int 4), some (.int 0)], [], hT M, 0, 0)) (v := some (.long 0)) (hs' := hT M) (c' := 0) (s' := 0) rfl rfl (mEnds.deep (of4_0 _) 1) ?_
  exact mEnds.ret rfl
set_option maxRecDepth 100000 in
theorem m25_FFFFFFv4v0 (x1 : Int32) (f0 : decide (x1 < 0) = false) (f1 : decide (10 < x1) = false) : ∃ hs', mEnds [] 20 167 (mentry 167 [.ref 1, .int x1, .int 4, .int 0] hM0) (some (.long 0), hs', 0, 0) := by
  refine ⟨(hB 4), ?_⟩
  refine mEnds.steps 4 (q' := (6, [some (.ref 1), some (.int x1), some (.int 4), some (.int 0)], [.long 10, .long 0, .long x1.toInt64], hM0, 0, 0)) rfl ?_
  refine mEnds.call (d := 19) (y' := 111) (as := [.long x1.toInt64, .long 0, .long 10]) (q' := (9, [some (.ref 1), some (.int x1), some (.int 4), some (.int 0)], [], hM0, 0, 0)) (v := some (.int 1)) (hs' := hM0) (c' := 0) (s' := 0) rfl rfl ?_ ?_
  · refine mEnds.steps 3 (q' := (3, [some (.long x1.toInt64), none, some (.long 0), none, some (.long 10), none], [.int (lg_cmp x1.toInt64 0)], hM0, 0, 0)) rfl ?_
    refine mEnds.brF (q' := (6, [some (.long x1.toInt64), none, some (.long 0), none, some (.long 10), none], [], hM0, 0, 0)) rfl (lgc_lt (c := 0) (by decide) f0) rfl ?_
    refine mEnds.steps 3 (q' := (10, [some (.long x1.toInt64), none, some (.long 0), none, some (.long 10), none], [.int (lg_cmp x1.toInt64 10)], hM0, 0, 0)) rfl ?_
    refine mEnds.brF (q' := (13, [some (.long x1.toInt64), none, some (.long 0), none, some (.long 10), none], [], hM0, 0, 0)) rfl (lgc_gt (c := 10) (by decide) f1) rfl ?_
    refine mEnds.steps 2 (q' := (18, [some (.long x1.toInt64), none, some (.long 0), none, some (.long 10), none], [.int 1], hM0, 0, 0)) rfl ?_
    exact mEnds.ret rfl
  show mEnds [] 20 167 (9, [some (.ref 1), some (.int x1), some (.int 4), some (.int 0)], [.int 1], hM0, 0, 0) _
  refine mEnds.steps 5 (q' := (18, [some (.ref 1), some (.int x1), some (.int 4), some (.int 0)], [.long 8, .long 0, .long 4], hM0, 0, 0)) rfl ?_
  refine mEnds.call (d := 19) (y' := 111) (as := [.long 4, .long 0, .long 8]) (q' := (21, [some (.ref 1), some (.int x1), some (.int 4), some (.int 0)], [], hM0, 0, 0)) (v := some (.int 1)) (hs' := hM0) (c' := 0) (s' := 0) rfl rfl ?_ ?_
  · refine mEnds.steps 10 (q' := (18, [some (.long 4), none, some (.long 0), none, some (.long 8), none], [.int 1], hM0, 0, 0)) rfl ?_
    exact mEnds.ret rfl
  show mEnds [] 20 167 (21, [some (.ref 1), some (.int x1), some (.int 4), some (.int 0)], [.int 1], hM0, 0, 0) _
  refine mEnds.steps 5 (q' := (28, [some (.ref 1), some (.int x1), some (.int 4), some (.int 0)], [.long 1, .long 0, .long 0], hM0, 0, 0)) rfl ?_
  refine mEnds.call (d := 19) (y' := 111) (as := [.long 0, .long 0, .long 1]) (q' := (31, [some (.ref 1), some (.int x1), some (.int 4), some (.int 0)], [], hM0, 0, 0)) (v := some (.int 1)) (hs' := hM0) (c' := 0) (s' := 0) rfl rfl ?_ ?_
  · refine mEnds.steps 10 (q' := (18, [some (.long 0), none, some (.long 0), none, some (.long 1), none], [.int 1], hM0, 0, 0)) rfl ?_
    exact mEnds.ret rfl
  show mEnds [] 20 167 (31, [some (.ref 1), some (.int x1), some (.int 4), some (.int 0)], [.int 1], hM0, 0, 0) _
  refine mEnds.steps 1 (q' := (34, [some (.ref 1), some (.int x1), some (.int 4), some (.int 0)], [], hM0, 0, 0)) rfl ?_
  refine mEnds.steps 6 (q' := (41, [some (.ref 1), some (.int x1), some (.int 4), some (.int 0)], [.int 0, .int 0, .int 4, .int (-4), .int x1, .ref 1], hM0, 0, 0)) rfl ?_
  refine mEnds.call (d := 19) (y' := 165) (as := [.ref 1, .int x1, .int (-4), .int 4, .int 0, .int 0]) (q' := (44, [some (.ref 1), some (.int x1), some (.int 4), some (.int 0)], [], hM0, 0, 0)) (v := some (.long 0)) (hs' := hB 4) (c' := 0) (s' := 0) rfl rfl (bf4_0 x1) ?_
  show mEnds [] 20 167 (44, [some (.ref 1), some (.int x1), some (.int 4), some (.int 0)], [.long 0], hB 4, 0, 0) _
  refine mEnds.steps 1 (q' := (50, [some (.ref 1), some (.int x1), some (.int 4), some (.int 0)], [.long 0], hB 4, 0, 0)) rfl ?_
  exact mEnds.ret rfl
set_option maxRecDepth 100000 in
theorem c25_FFFFFFv4v1 (x1 : Int32) (f0 : decide (x1 < 0) = false) (f1 : decide (10 < x1) = false) : ∃ hs', mEnds [] 20 82 (mentry 82 [.ref 1, .int x1, .int 4, .int 1] hC0) (some (.long 1), hs', 0, 0) := by
  obtain ⟨M, -, -, hw⟩ := wg0 (N := 4) (m := 0) x1 (by decide) (by decide) (by decide) (by decide)
  rw [hT_0] at hw
  refine ⟨(hT M), ?_⟩
  refine mEnds.steps 3 (q' := (3, [some (.ref 1), some (.int x1), some (.int 4), some (.int 1)], [.int 1, .int 4, .int x1], hC0, 0, 0)) rfl ?_
  refine mEnds.call (d := 19) (y' := 83) (as := [.int x1, .int 4, .int 1]) (q' := (6, [some (.ref 1), some (.int x1), some (.int 4), some (.int 1)], [], hC0, 0, 0)) (v := some (.int 1)) (hs' := hC0) (c' := 0) (s' := 0) rfl rfl ?_ ?_
  · refine mEnds.steps 3 (q' := (4, [some (.int x1), some (.int 4), some (.int 1)], [.int 10, .int 0, .int x1], hC0, 0, 0)) rfl ?_
    refine mEnds.call (d := 18) (y' := 105) (as := [.int x1, .int 0, .int 10]) (q' := (7, [some (.int x1), some (.int 4), some (.int 1)], [], hC0, 0, 0)) (v := some (.int 1)) (hs' := hC0) (c' := 0) (s' := 0) rfl rfl ?_ ?_
    · refine mEnds.steps 2 (q' := (2, [some (.int x1), some (.int 0), some (.int 10)], [.int 0, .int x1], hC0, 0, 0)) rfl ?_
      refine mEnds.brF (q' := (5, [some (.int x1), some (.int 0), some (.int 10)], [], hC0, 0, 0)) rfl f0 rfl ?_
      refine mEnds.steps 2 (q' := (7, [some (.int x1), some (.int 0), some (.int 10)], [.int 10, .int x1], hC0, 0, 0)) rfl ?_
      refine mEnds.brF (q' := (10, [some (.int x1), some (.int 0), some (.int 10)], [], hC0, 0, 0)) rfl f1 rfl ?_
      refine mEnds.steps 2 (q' := (15, [some (.int x1), some (.int 0), some (.int 10)], [.int 1], hC0, 0, 0)) rfl ?_
      exact mEnds.ret rfl
    show mEnds [] 19 83 (7, [some (.int x1), some (.int 4), some (.int 1)], [.int 1], hC0, 0, 0) _
    refine mEnds.steps 4 (q' := (14, [some (.int x1), some (.int 4), some (.int 1)], [.int 8, .int 0, .int 4], hC0, 0, 0)) rfl ?_
    refine mEnds.call (d := 18) (y' := 105) (as := [.int 4, .int 0, .int 8]) (q' := (17, [some (.int x1), some (.int 4), some (.int 1)], [], hC0, 0, 0)) (v := some (.int 1)) (hs' := hC0) (c' := 0) (s' := 0) rfl rfl ?_ ?_
    · refine mEnds.steps 8 (q' := (15, [some (.int 4), some (.int 0), some (.int 8)], [.int 1], hC0, 0, 0)) rfl ?_
      exact mEnds.ret rfl
    show mEnds [] 19 83 (17, [some (.int x1), some (.int 4), some (.int 1)], [.int 1], hC0, 0, 0) _
    refine mEnds.steps 4 (q' := (23, [some (.int x1), some (.int 4), some (.int 1)], [.int 1, .int 0, .int 1], hC0, 0, 0)) rfl ?_
    refine mEnds.call (d := 18) (y' := 105) (as := [.int 1, .int 0, .int 1]) (q' := (26, [some (.int x1), some (.int 4), some (.int 1)], [], hC0, 0, 0)) (v := some (.int 1)) (hs' := hC0) (c' := 0) (s' := 0) rfl rfl ?_ ?_
    · refine mEnds.steps 8 (q' := (15, [some (.int 1), some (.int 0), some (.int 1)], [.int 1], hC0, 0, 0)) rfl ?_
      exact mEnds.ret rfl
    show mEnds [] 19 83 (26, [some (.int x1), some (.int 4), some (.int 1)], [.int 1], hC0, 0, 0) _
    refine mEnds.steps 3 (q' := (34, [some (.int x1), some (.int 4), some (.int 1)], [.int 1], hC0, 0, 0)) rfl ?_
    exact mEnds.ret rfl
  show mEnds [] 20 82 (6, [some (.ref 1), some (.int x1), some (.int 4), some (.int 1)], [.int 1], hC0, 0, 0) _
  refine mEnds.steps 1 (q' := (13, [some (.ref 1), some (.int x1), some (.int 4), some (.int 1)], [], hC0, 0, 0)) rfl ?_
  refine mEnds.steps 6 (q' := (23, [some (.ref 1), some (.int x1), some (.int 4), some (.int 1)], [.ref 2, .ref 44], hC0, 0, 0)) rfl ?_
  refine mEnds.call (d := 19) (y' := 7) (as := [.ref 44, .ref 2]) (q' := (26, [some (.ref 1), some (.int x1), some (.int 4), some (.int 1)], [], hC0, 0, 0)) (v := none) (hs' := hC0) (c' := 0) (s' := 0) rfl rfl (mEnds.deep cpM 9) ?_
  show mEnds [] 20 82 (26, [some (.ref 1), some (.int x1), some (.int 4), some (.int 1)], [], hC0, 0, 0) _
  refine mEnds.steps 6 (q' := (33, [some (.ref 1), some (.int x1), some (.int 4), some (.int 1)], [.int 0, .int (-4), .int x1, .int 4, .int 0, .ref 1], hC0, 0, 0)) rfl ?_
  refine mEnds.call (d := 19) (y' := 84) (as := [.ref 1, .int 0, .int 4, .int x1, .int (-4), .int 0]) (q' := (36, [some (.ref 1), some (.int x1), some (.int 4), some (.int 1)], [], hC0, 0, 0)) (v := some (.long 0)) (hs' := hT M) (c' := 0) (s' := 0) rfl rfl hw ?_
  show mEnds [] 20 82 (36, [some (.ref 1), some (.int x1), some (.int 4), some (.int 1)], [.long 0], hT M, 0, 0) _
  refine mEnds.steps 1 (q' := (37, [some (.ref 1), some (.int x1), some (.int 4), some (.int 1)], [.int 4, .long 0], hT M, 0, 0)) rfl ?_
  refine mEnds.call (d := 19) (y' := 86) (as := [.int 4]) (q' := (40, [some (.ref 1), some (.int x1), some (.int 4), some (.int 1)], [.long 0], hT M, 0, 0)) (v := some (.long 10000)) (hs' := hT M) (c' := 0) (s' := 0) rfl rfl (mEnds.deep (te4 _) 1) ?_
  show mEnds [] 20 82 (40, [some (.ref 1), some (.int x1), some (.int 4), some (.int 1)], [.long 10000, .long 0], hT M, 0, 0) _
  refine mEnds.steps 1 (q' := (41, [some (.ref 1), some (.int x1), some (.int 4), some (.int 1)], [.int 1, .long 10000, .long 0], hT M, 0, 0)) rfl ?_
  refine mEnds.call (d := 19) (y' := 87) (as := [.long 0, .long 10000, .int 1]) (q' := (44, [some (.ref 1), some (.int x1), some (.int 4), some (.int 1)], [], hT M, 0, 0)) (v := some (.long 1)) (hs' := hT M) (c' := 0) (s' := 0) rfl rfl (mEnds.deep (of4_1 _) 1) ?_
  exact mEnds.ret rfl
set_option maxRecDepth 100000 in
theorem m25_FFFFFFv4v1 (x1 : Int32) (f0 : decide (x1 < 0) = false) (f1 : decide (10 < x1) = false) : ∃ hs', mEnds [] 20 167 (mentry 167 [.ref 1, .int x1, .int 4, .int 1] hM0) (some (.long 1), hs', 0, 0) := by
  refine ⟨(hB 4), ?_⟩
  refine mEnds.steps 4 (q' := (6, [some (.ref 1), some (.int x1), some (.int 4), some (.int 1)], [.long 10, .long 0, .long x1.toInt64], hM0, 0, 0)) rfl ?_
  refine mEnds.call (d := 19) (y' := 111) (as := [.long x1.toInt64, .long 0, .long 10]) (q' := (9, [some (.ref 1), some (.int x1), some (.int 4), some (.int 1)], [], hM0, 0, 0)) (v := some (.int 1)) (hs' := hM0) (c' := 0) (s' := 0) rfl rfl ?_ ?_
  · refine mEnds.steps 3 (q' := (3, [some (.long x1.toInt64), none, some (.long 0), none, some (.long 10), none], [.int (lg_cmp x1.toInt64 0)], hM0, 0, 0)) rfl ?_
    refine mEnds.brF (q' := (6, [some (.long x1.toInt64), none, some (.long 0), none, some (.long 10), none], [], hM0, 0, 0)) rfl (lgc_lt (c := 0) (by decide) f0) rfl ?_
    refine mEnds.steps 3 (q' := (10, [some (.long x1.toInt64), none, some (.long 0), none, some (.long 10), none], [.int (lg_cmp x1.toInt64 10)], hM0, 0, 0)) rfl ?_
    refine mEnds.brF (q' := (13, [some (.long x1.toInt64), none, some (.long 0), none, some (.long 10), none], [], hM0, 0, 0)) rfl (lgc_gt (c := 10) (by decide) f1) rfl ?_
    refine mEnds.steps 2 (q' := (18, [some (.long x1.toInt64), none, some (.long 0), none, some (.long 10), none], [.int 1], hM0, 0, 0)) rfl ?_
    exact mEnds.ret rfl
  show mEnds [] 20 167 (9, [some (.ref 1), some (.int x1), some (.int 4), some (.int 1)], [.int 1], hM0, 0, 0) _
  refine mEnds.steps 5 (q' := (18, [some (.ref 1), some (.int x1), some (.int 4), some (.int 1)], [.long 8, .long 0, .long 4], hM0, 0, 0)) rfl ?_
  refine mEnds.call (d := 19) (y' := 111) (as := [.long 4, .long 0, .long 8]) (q' := (21, [some (.ref 1), some (.int x1), some (.int 4), some (.int 1)], [], hM0, 0, 0)) (v := some (.int 1)) (hs' := hM0) (c' := 0) (s' := 0) rfl rfl ?_ ?_
  · refine mEnds.steps 10 (q' := (18, [some (.long 4), none, some (.long 0), none, some (.long 8), none], [.int 1], hM0, 0, 0)) rfl ?_
    exact mEnds.ret rfl
  show mEnds [] 20 167 (21, [some (.ref 1), some (.int x1), some (.int 4), some (.int 1)], [.int 1], hM0, 0, 0) _
  refine mEnds.steps 5 (q' := (28, [some (.ref 1), some (.int x1), some (.int 4), some (.int 1)], [.long 1, .long 0, .long 1], hM0, 0, 0)) rfl ?_
  refine mEnds.call (d := 19) (y' := 111) (as := [.long 1, .long 0, .long 1]) (q' := (31, [some (.ref 1), some (.int x1), some (.int 4), some (.int 1)], [], hM0, 0, 0)) (v := some (.int 1)) (hs' := hM0) (c' := 0) (s' := 0) rfl rfl ?_ ?_
  · refine mEnds.steps 10 (q' := (18, [some (.long 1), none, some (.long 0), none, some (.long 1), none], [.int 1], hM0, 0, 0)) rfl ?_
    exact mEnds.ret rfl
  show mEnds [] 20 167 (31, [some (.ref 1), some (.int x1), some (.int 4), some (.int 1)], [.int 1], hM0, 0, 0) _
  refine mEnds.steps 1 (q' := (34, [some (.ref 1), some (.int x1), some (.int 4), some (.int 1)], [], hM0, 0, 0)) rfl ?_
  refine mEnds.steps 6 (q' := (41, [some (.ref 1), some (.int x1), some (.int 4), some (.int 1)], [.int 1, .int 0, .int 4, .int (-4), .int x1, .ref 1], hM0, 0, 0)) rfl ?_
  refine mEnds.call (d := 19) (y' := 165) (as := [.ref 1, .int x1, .int (-4), .int 4, .int 0, .int 1]) (q' := (44, [some (.ref 1), some (.int x1), some (.int 4), some (.int 1)], [], hM0, 0, 0)) (v := some (.long 1)) (hs' := hB 4) (c' := 0) (s' := 0) rfl rfl (bf4_1 x1) ?_
  show mEnds [] 20 167 (44, [some (.ref 1), some (.int x1), some (.int 4), some (.int 1)], [.long 1], hB 4, 0, 0) _
  refine mEnds.steps 1 (q' := (50, [some (.ref 1), some (.int x1), some (.int 4), some (.int 1)], [.long 1], hB 4, 0, 0)) rfl ?_
  exact mEnds.ret rfl
set_option maxRecDepth 100000 in
theorem c25_FFFFFFv5v0 (x1 : Int32) (f0 : decide (x1 < 0) = false) (f1 : decide (10 < x1) = false) : ∃ hs', mEnds [] 20 82 (mentry 82 [.ref 1, .int x1, .int 5, .int 0] hC0) (some (.long 0), hs', 0, 0) := by
  obtain ⟨M, -, -, hw⟩ := wg0 (N := 5) (m := 0) x1 (by decide) (by decide) (by decide) (by decide)
  rw [hT_0] at hw
  refine ⟨(hT M), ?_⟩
  refine mEnds.steps 3 (q' := (3, [some (.ref 1), some (.int x1), some (.int 5), some (.int 0)], [.int 0, .int 5, .int x1], hC0, 0, 0)) rfl ?_
  refine mEnds.call (d := 19) (y' := 83) (as := [.int x1, .int 5, .int 0]) (q' := (6, [some (.ref 1), some (.int x1), some (.int 5), some (.int 0)], [], hC0, 0, 0)) (v := some (.int 1)) (hs' := hC0) (c' := 0) (s' := 0) rfl rfl ?_ ?_
  · refine mEnds.steps 3 (q' := (4, [some (.int x1), some (.int 5), some (.int 0)], [.int 10, .int 0, .int x1], hC0, 0, 0)) rfl ?_
    refine mEnds.call (d := 18) (y' := 105) (as := [.int x1, .int 0, .int 10]) (q' := (7, [some (.int x1), some (.int 5), some (.int 0)], [], hC0, 0, 0)) (v := some (.int 1)) (hs' := hC0) (c' := 0) (s' := 0) rfl rfl ?_ ?_
    · refine mEnds.steps 2 (q' := (2, [some (.int x1), some (.int 0), some (.int 10)], [.int 0, .int x1], hC0, 0, 0)) rfl ?_
      refine mEnds.brF (q' := (5, [some (.int x1), some (.int 0), some (.int 10)], [], hC0, 0, 0)) rfl f0 rfl ?_
      refine mEnds.steps 2 (q' := (7, [some (.int x1), some (.int 0), some (.int 10)], [.int 10, .int x1], hC0, 0, 0)) rfl ?_
      refine mEnds.brF (q' := (10, [some (.int x1), some (.int 0), some (.int 10)], [], hC0, 0, 0)) rfl f1 rfl ?_
      refine mEnds.steps 2 (q' := (15, [some (.int x1), some (.int 0), some (.int 10)], [.int 1], hC0, 0, 0)) rfl ?_
      exact mEnds.ret rfl
    show mEnds [] 19 83 (7, [some (.int x1), some (.int 5), some (.int 0)], [.int 1], hC0, 0, 0) _
    refine mEnds.steps 4 (q' := (14, [some (.int x1), some (.int 5), some (.int 0)], [.int 8, .int 0, .int 5], hC0, 0, 0)) rfl ?_
    refine mEnds.call (d := 18) (y' := 105) (as := [.int 5, .int 0, .int 8]) (q' := (17, [some (.int x1), some (.int 5), some (.int 0)], [], hC0, 0, 0)) (v := some (.int 1)) (hs' := hC0) (c' := 0) (s' := 0) rfl rfl ?_ ?_
    · refine mEnds.steps 8 (q' := (15, [some (.int 5), some (.int 0), some (.int 8)], [.int 1], hC0, 0, 0)) rfl ?_
      exact mEnds.ret rfl
    show mEnds [] 19 83 (17, [some (.int x1), some (.int 5), some (.int 0)], [.int 1], hC0, 0, 0) _
    refine mEnds.steps 4 (q' := (23, [some (.int x1), some (.int 5), some (.int 0)], [.int 1, .int 0, .int 0], hC0, 0, 0)) rfl ?_
    refine mEnds.call (d := 18) (y' := 105) (as := [.int 0, .int 0, .int 1]) (q' := (26, [some (.int x1), some (.int 5), some (.int 0)], [], hC0, 0, 0)) (v := some (.int 1)) (hs' := hC0) (c' := 0) (s' := 0) rfl rfl ?_ ?_
    · refine mEnds.steps 8 (q' := (15, [some (.int 0), some (.int 0), some (.int 1)], [.int 1], hC0, 0, 0)) rfl ?_
      exact mEnds.ret rfl
    show mEnds [] 19 83 (26, [some (.int x1), some (.int 5), some (.int 0)], [.int 1], hC0, 0, 0) _
    refine mEnds.steps 3 (q' := (34, [some (.int x1), some (.int 5), some (.int 0)], [.int 1], hC0, 0, 0)) rfl ?_
    exact mEnds.ret rfl
  show mEnds [] 20 82 (6, [some (.ref 1), some (.int x1), some (.int 5), some (.int 0)], [.int 1], hC0, 0, 0) _
  refine mEnds.steps 1 (q' := (13, [some (.ref 1), some (.int x1), some (.int 5), some (.int 0)], [], hC0, 0, 0)) rfl ?_
  refine mEnds.steps 6 (q' := (23, [some (.ref 1), some (.int x1), some (.int 5), some (.int 0)], [.ref 2, .ref 44], hC0, 0, 0)) rfl ?_
  refine mEnds.call (d := 19) (y' := 7) (as := [.ref 44, .ref 2]) (q' := (26, [some (.ref 1), some (.int x1), some (.int 5), some (.int 0)], [], hC0, 0, 0)) (v := none) (hs' := hC0) (c' := 0) (s' := 0) rfl rfl (mEnds.deep cpM 9) ?_
  show mEnds [] 20 82 (26, [some (.ref 1), some (.int x1), some (.int 5), some (.int 0)], [], hC0, 0, 0) _
  refine mEnds.steps 6 (q' := (33, [some (.ref 1), some (.int x1), some (.int 5), some (.int 0)], [.int 0, .int (-4), .int x1, .int 5, .int 0, .ref 1], hC0, 0, 0)) rfl ?_
  refine mEnds.call (d := 19) (y' := 84) (as := [.ref 1, .int 0, .int 5, .int x1, .int (-4), .int 0]) (q' := (36, [some (.ref 1), some (.int x1), some (.int 5), some (.int 0)], [], hC0, 0, 0)) (v := some (.long 0)) (hs' := hT M) (c' := 0) (s' := 0) rfl rfl hw ?_
  show mEnds [] 20 82 (36, [some (.ref 1), some (.int x1), some (.int 5), some (.int 0)], [.long 0], hT M, 0, 0) _
  refine mEnds.steps 1 (q' := (37, [some (.ref 1), some (.int x1), some (.int 5), some (.int 0)], [.int 5, .long 0], hT M, 0, 0)) rfl ?_
  refine mEnds.call (d := 19) (y' := 86) (as := [.int 5]) (q' := (40, [some (.ref 1), some (.int x1), some (.int 5), some (.int 0)], [.long 0], hT M, 0, 0)) (v := some (.long 100000)) (hs' := hT M) (c' := 0) (s' := 0) rfl rfl (mEnds.deep (te5 _) 1) ?_
  show mEnds [] 20 82 (40, [some (.ref 1), some (.int x1), some (.int 5), some (.int 0)], [.long 100000, .long 0], hT M, 0, 0) _
  refine mEnds.steps 1 (q' := (41, [some (.ref 1), some (.int x1), some (.int 5), some (.int 0)], [.int 0, .long 100000, .long 0], hT M, 0, 0)) rfl ?_
  refine mEnds.call (d := 19) (y' := 87) (as := [.long 0, .long 100000, .int 0]) (q' := (44, [some (.ref 1), some (.int x1), some (.int 5), some (.int 0)], [], hT M, 0, 0)) (v := some (.long 0)) (hs' := hT M) (c' := 0) (s' := 0) rfl rfl (mEnds.deep (of5_0 _) 1) ?_
  exact mEnds.ret rfl
set_option maxRecDepth 100000 in
theorem m25_FFFFFFv5v0 (x1 : Int32) (f0 : decide (x1 < 0) = false) (f1 : decide (10 < x1) = false) : ∃ hs', mEnds [] 20 167 (mentry 167 [.ref 1, .int x1, .int 5, .int 0] hM0) (some (.long 0), hs', 0, 0) := by
  refine ⟨(hB 5), ?_⟩
  refine mEnds.steps 4 (q' := (6, [some (.ref 1), some (.int x1), some (.int 5), some (.int 0)], [.long 10, .long 0, .long x1.toInt64], hM0, 0, 0)) rfl ?_
  refine mEnds.call (d := 19) (y' := 111) (as := [.long x1.toInt64, .long 0, .long 10]) (q' := (9, [some (.ref 1), some (.int x1), some (.int 5), some (.int 0)], [], hM0, 0, 0)) (v := some (.int 1)) (hs' := hM0) (c' := 0) (s' := 0) rfl rfl ?_ ?_
  · refine mEnds.steps 3 (q' := (3, [some (.long x1.toInt64), none, some (.long 0), none, some (.long 10), none], [.int (lg_cmp x1.toInt64 0)], hM0, 0, 0)) rfl ?_
    refine mEnds.brF (q' := (6, [some (.long x1.toInt64), none, some (.long 0), none, some (.long 10), none], [], hM0, 0, 0)) rfl (lgc_lt (c := 0) (by decide) f0) rfl ?_
    refine mEnds.steps 3 (q' := (10, [some (.long x1.toInt64), none, some (.long 0), none, some (.long 10), none], [.int (lg_cmp x1.toInt64 10)], hM0, 0, 0)) rfl ?_
    refine mEnds.brF (q' := (13, [some (.long x1.toInt64), none, some (.long 0), none, some (.long 10), none], [], hM0, 0, 0)) rfl (lgc_gt (c := 10) (by decide) f1) rfl ?_
    refine mEnds.steps 2 (q' := (18, [some (.long x1.toInt64), none, some (.long 0), none, some (.long 10), none], [.int 1], hM0, 0, 0)) rfl ?_
    exact mEnds.ret rfl
  show mEnds [] 20 167 (9, [some (.ref 1), some (.int x1), some (.int 5), some (.int 0)], [.int 1], hM0, 0, 0) _
  refine mEnds.steps 5 (q' := (18, [some (.ref 1), some (.int x1), some (.int 5), some (.int 0)], [.long 8, .long 0, .long 5], hM0, 0, 0)) rfl ?_
  refine mEnds.call (d := 19) (y' := 111) (as := [.long 5, .long 0, .long 8]) (q' := (21, [some (.ref 1), some (.int x1), some (.int 5), some (.int 0)], [], hM0, 0, 0)) (v := some (.int 1)) (hs' := hM0) (c' := 0) (s' := 0) rfl rfl ?_ ?_
  · refine mEnds.steps 10 (q' := (18, [some (.long 5), none, some (.long 0), none, some (.long 8), none], [.int 1], hM0, 0, 0)) rfl ?_
    exact mEnds.ret rfl
  show mEnds [] 20 167 (21, [some (.ref 1), some (.int x1), some (.int 5), some (.int 0)], [.int 1], hM0, 0, 0) _
  refine mEnds.steps 5 (q' := (28, [some (.ref 1), some (.int x1), some (.int 5), some (.int 0)], [.long 1, .long 0, .long 0], hM0, 0, 0)) rfl ?_
  refine mEnds.call (d := 19) (y' := 111) (as := [.long 0, .long 0, .long 1]) (q' := (31, [some (.ref 1), some (.int x1), some (.int 5), some (.int 0)], [], hM0, 0, 0)) (v := some (.int 1)) (hs' := hM0) (c' := 0) (s' := 0) rfl rfl ?_ ?_
  · refine mEnds.steps 10 (q' := (18, [some (.long 0), none, some (.long 0), none, some (.long 1), none], [.int 1], hM0, 0, 0)) rfl ?_
    exact mEnds.ret rfl
  show mEnds [] 20 167 (31, [some (.ref 1), some (.int x1), some (.int 5), some (.int 0)], [.int 1], hM0, 0, 0) _
  refine mEnds.steps 1 (q' := (34, [some (.ref 1), some (.int x1), some (.int 5), some (.int 0)], [], hM0, 0, 0)) rfl ?_
  refine mEnds.steps 6 (q' := (41, [some (.ref 1), some (.int x1), some (.int 5), some (.int 0)], [.int 0, .int 0, .int 5, .int (-4), .int x1, .ref 1], hM0, 0, 0)) rfl ?_
  refine mEnds.call (d := 19) (y' := 165) (as := [.ref 1, .int x1, .int (-4), .int 5, .int 0, .int 0]) (q' := (44, [some (.ref 1), some (.int x1), some (.int 5), some (.int 0)], [], hM0, 0, 0)) (v := some (.long 0)) (hs' := hB 5) (c' := 0) (s' := 0) rfl rfl (bf5_0 x1) ?_
  show mEnds [] 20 167 (44, [some (.ref 1), some (.int x1), some (.int 5), some (.int 0)], [.long 0], hB 5, 0, 0) _
  refine mEnds.steps 1 (q' := (50, [some (.ref 1), some (.int x1), some (.int 5), some (.int 0)], [.long 0], hB 5, 0, 0)) rfl ?_
  exact mEnds.ret rfl
set_option maxRecDepth 100000 in
theorem c25_FFFFFFv5v1 (x1 : Int32) (f0 : decide (x1 < 0) = false) (f1 : decide (10 < x1) = false) : ∃ hs', mEnds [] 20 82 (mentry 82 [.ref 1, .int x1, .int 5, .int 1] hC0) (some (.long 1), hs', 0, 0) := by
  obtain ⟨M, -, -, hw⟩ := wg0 (N := 5) (m := 0) x1 (by decide) (by decide) (by decide) (by decide)
  rw [hT_0] at hw
  refine ⟨(hT M), ?_⟩
  refine mEnds.steps 3 (q' := (3, [some (.ref 1), some (.int x1), some (.int 5), some (.int 1)], [.int 1, .int 5, .int x1], hC0, 0, 0)) rfl ?_
  refine mEnds.call (d := 19) (y' := 83) (as := [.int x1, .int 5, .int 1]) (q' := (6, [some (.ref 1), some (.int x1), some (.int 5), some (.int 1)], [], hC0, 0, 0)) (v := some (.int 1)) (hs' := hC0) (c' := 0) (s' := 0) rfl rfl ?_ ?_
  · refine mEnds.steps 3 (q' := (4, [some (.int x1), some (.int 5), some (.int 1)], [.int 10, .int 0, .int x1], hC0, 0, 0)) rfl ?_
    refine mEnds.call (d := 18) (y' := 105) (as := [.int x1, .int 0, .int 10]) (q' := (7, [some (.int x1), some (.int 5), some (.int 1)], [], hC0, 0, 0)) (v := some (.int 1)) (hs' := hC0) (c' := 0) (s' := 0) rfl rfl ?_ ?_
    · refine mEnds.steps 2 (q' := (2, [some (.int x1), some (.int 0), some (.int 10)], [.int 0, .int x1], hC0, 0, 0)) rfl ?_
      refine mEnds.brF (q' := (5, [some (.int x1), some (.int 0), some (.int 10)], [], hC0, 0, 0)) rfl f0 rfl ?_
      refine mEnds.steps 2 (q' := (7, [some (.int x1), some (.int 0), some (.int 10)], [.int 10, .int x1], hC0, 0, 0)) rfl ?_
      refine mEnds.brF (q' := (10, [some (.int x1), some (.int 0), some (.int 10)], [], hC0, 0, 0)) rfl f1 rfl ?_
      refine mEnds.steps 2 (q' := (15, [some (.int x1), some (.int 0), some (.int 10)], [.int 1], hC0, 0, 0)) rfl ?_
      exact mEnds.ret rfl
    show mEnds [] 19 83 (7, [some (.int x1), some (.int 5), some (.int 1)], [.int 1], hC0, 0, 0) _
    refine mEnds.steps 4 (q' := (14, [some (.int x1), some (.int 5), some (.int 1)], [.int 8, .int 0, .int 5], hC0, 0, 0)) rfl ?_
    refine mEnds.call (d := 18) (y' := 105) (as := [.int 5, .int 0, .int 8]) (q' := (17, [some (.int x1), some (.int 5), some (.int 1)], [], hC0, 0, 0)) (v := some (.int 1)) (hs' := hC0) (c' := 0) (s' := 0) rfl rfl ?_ ?_
    · refine mEnds.steps 8 (q' := (15, [some (.int 5), some (.int 0), some (.int 8)], [.int 1], hC0, 0, 0)) rfl ?_
      exact mEnds.ret rfl
    show mEnds [] 19 83 (17, [some (.int x1), some (.int 5), some (.int 1)], [.int 1], hC0, 0, 0) _
    refine mEnds.steps 4 (q' := (23, [some (.int x1), some (.int 5), some (.int 1)], [.int 1, .int 0, .int 1], hC0, 0, 0)) rfl ?_
    refine mEnds.call (d := 18) (y' := 105) (as := [.int 1, .int 0, .int 1]) (q' := (26, [some (.int x1), some (.int 5), some (.int 1)], [], hC0, 0, 0)) (v := some (.int 1)) (hs' := hC0) (c' := 0) (s' := 0) rfl rfl ?_ ?_
    · refine mEnds.steps 8 (q' := (15, [some (.int 1), some (.int 0), some (.int 1)], [.int 1], hC0, 0, 0)) rfl ?_
      exact mEnds.ret rfl
    show mEnds [] 19 83 (26, [some (.int x1), some (.int 5), some (.int 1)], [.int 1], hC0, 0, 0) _
    refine mEnds.steps 3 (q' := (34, [some (.int x1), some (.int 5), some (.int 1)], [.int 1], hC0, 0, 0)) rfl ?_
    exact mEnds.ret rfl
  show mEnds [] 20 82 (6, [some (.ref 1), some (.int x1), some (.int 5), some (.int 1)], [.int 1], hC0, 0, 0) _
  refine mEnds.steps 1 (q' := (13, [some (.ref 1), some (.int x1), some (.int 5), some (.int 1)], [], hC0, 0, 0)) rfl ?_
  refine mEnds.steps 6 (q' := (23, [some (.ref 1), some (.int x1), some (.int 5), some (.int 1)], [.ref 2, .ref 44], hC0, 0, 0)) rfl ?_
  refine mEnds.call (d := 19) (y' := 7) (as := [.ref 44, .ref 2]) (q' := (26, [some (.ref 1), some (.int x1), some (.int 5), some (.int 1)], [], hC0, 0, 0)) (v := none) (hs' := hC0) (c' := 0) (s' := 0) rfl rfl (mEnds.deep cpM 9) ?_
  show mEnds [] 20 82 (26, [some (.ref 1), some (.int x1), some (.int 5), some (.int 1)], [], hC0, 0, 0) _
  refine mEnds.steps 6 (q' := (33, [some (.ref 1), some (.int x1), some (.int 5), some (.int 1)], [.int 0, .int (-4), .int x1, .int 5, .int 0, .ref 1], hC0, 0, 0)) rfl ?_
  refine mEnds.call (d := 19) (y' := 84) (as := [.ref 1, .int 0, .int 5, .int x1, .int (-4), .int 0]) (q' := (36, [some (.ref 1), some (.int x1), some (.int 5), some (.int 1)], [], hC0, 0, 0)) (v := some (.long 0)) (hs' := hT M) (c' := 0) (s' := 0) rfl rfl hw ?_
  show mEnds [] 20 82 (36, [some (.ref 1), some (.int x1), some (.int 5), some (.int 1)], [.long 0], hT M, 0, 0) _
  refine mEnds.steps 1 (q' := (37, [some (.ref 1), some (.int x1), some (.int 5), some (.int 1)], [.int 5, .long 0], hT M, 0, 0)) rfl ?_
  refine mEnds.call (d := 19) (y' := 86) (as := [.int 5]) (q' := (40, [some (.ref 1), some (.int x1), some (.int 5), some (.int 1)], [.long 0], hT M, 0, 0)) (v := some (.long 100000)) (hs' := hT M) (c' := 0) (s' := 0) rfl rfl (mEnds.deep (te5 _) 1) ?_
  show mEnds [] 20 82 (40, [some (.ref 1), some (.int x1), some (.int 5), some (.int 1)], [.long 100000, .long 0], hT M, 0, 0) _
  refine mEnds.steps 1 (q' := (41, [some (.ref 1), some (.int x1), some (.int 5), some (.int 1)], [.int 1, .long 100000, .long 0], hT M, 0, 0)) rfl ?_
  refine mEnds.call (d := 19) (y' := 87) (as := [.long 0, .long 100000, .int 1]) (q' := (44, [some (.ref 1), some (.int x1), some (.int 5), some (.int 1)], [], hT M, 0, 0)) (v := some (.long 1)) (hs' := hT M) (c' := 0) (s' := 0) rfl rfl (mEnds.deep (of5_1 _) 1) ?_
  exact mEnds.ret rfl
set_option maxRecDepth 100000 in
theorem m25_FFFFFFv5v1 (x1 : Int32) (f0 : decide (x1 < 0) = false) (f1 : decide (10 < x1) = false) : ∃ hs', mEnds [] 20 167 (mentry 167 [.ref 1, .int x1, .int 5, .int 1] hM0) (some (.long 1), hs', 0, 0) := by
  refine ⟨(hB 5), ?_⟩
  refine mEnds.steps 4 (q' := (6, [some (.ref 1), some (.int x1), some (.int 5), some (.int 1)], [.long 10, .long 0, .long x1.toInt64], hM0, 0, 0)) rfl ?_
  refine mEnds.call (d := 19) (y' := 111) (as := [.long x1.toInt64, .long 0, .long 10]) (q' := (9, [some (.ref 1), some (.int x1), some (.int 5), some (.int 1)], [], hM0, 0, 0)) (v := some (.int 1)) (hs' := hM0) (c' := 0) (s' := 0) rfl rfl ?_ ?_
  · refine mEnds.steps 3 (q' := (3, [some (.long x1.toInt64), none, some (.long 0), none, some (.long 10), none], [.int (lg_cmp x1.toInt64 0)], hM0, 0, 0)) rfl ?_
    refine mEnds.brF (q' := (6, [some (.long x1.toInt64), none, some (.long 0), none, some (.long 10), none], [], hM0, 0, 0)) rfl (lgc_lt (c := 0) (by decide) f0) rfl ?_
    refine mEnds.steps 3 (q' := (10, [some (.long x1.toInt64), none, some (.long 0), none, some (.long 10), none], [.int (lg_cmp x1.toInt64 10)], hM0, 0, 0)) rfl ?_
    refine mEnds.brF (q' := (13, [some (.long x1.toInt64), none, some (.long 0), none, some (.long 10), none], [], hM0, 0, 0)) rfl (lgc_gt (c := 10) (by decide) f1) rfl ?_
    refine mEnds.steps 2 (q' := (18, [some (.long x1.toInt64), none, some (.long 0), none, some (.long 10), none], [.int 1], hM0, 0, 0)) rfl ?_
    exact mEnds.ret rfl
  show mEnds [] 20 167 (9, [some (.ref 1), some (.int x1), some (.int 5), some (.int 1)], [.int 1], hM0, 0, 0) _
  refine mEnds.steps 5 (q' := (18, [some (.ref 1), some (.int x1), some (.int 5), some (.int 1)], [.long 8, .long 0, .long 5], hM0, 0, 0)) rfl ?_
  refine mEnds.call (d := 19) (y' := 111) (as := [.long 5, .long 0, .long 8]) (q' := (21, [some (.ref 1), some (.int x1), some (.int 5), some (.int 1)], [], hM0, 0, 0)) (v := some (.int 1)) (hs' := hM0) (c' := 0) (s' := 0) rfl rfl ?_ ?_
  · refine mEnds.steps 10 (q' := (18, [some (.long 5), none, some (.long 0), none, some (.long 8), none], [.int 1], hM0, 0, 0)) rfl ?_
    exact mEnds.ret rfl
  show mEnds [] 20 167 (21, [some (.ref 1), some (.int x1), some (.int 5), some (.int 1)], [.int 1], hM0, 0, 0) _
  refine mEnds.steps 5 (q' := (28, [some (.ref 1), some (.int x1), some (.int 5), some (.int 1)], [.long 1, .long 0, .long 1], hM0, 0, 0)) rfl ?_
  refine mEnds.call (d := 19) (y' := 111) (as := [.long 1, .long 0, .long 1]) (q' := (31, [some (.ref 1), some (.int x1), some (.int 5), some (.int 1)], [], hM0, 0, 0)) (v := some (.int 1)) (hs' := hM0) (c' := 0) (s' := 0) rfl rfl ?_ ?_
  · refine mEnds.steps 10 (q' := (18, [some (.long 1), none, some (.long 0), none, some (.long 1), none], [.int 1], hM0, 0, 0)) rfl ?_
    exact mEnds.ret rfl
  show mEnds [] 20 167 (31, [some (.ref 1), some (.int x1), some (.int 5), some (.int 1)], [.int 1], hM0, 0, 0) _
  refine mEnds.steps 1 (q' := (34, [some (.ref 1), some (.int x1), some (.int 5), some (.int 1)], [], hM0, 0, 0)) rfl ?_
  refine mEnds.steps 6 (q' := (41, [some (.ref 1), some (.int x1), some (.int 5), some (.int 1)], [.int 1, .int 0, .int 5, .int (-4), .int x1, .ref 1], hM0, 0, 0)) rfl ?_
  refine mEnds.call (d := 19) (y' := 165) (as := [.ref 1, .int x1, .int (-4), .int 5, .int 0, .int 1]) (q' := (44, [some (.ref 1), some (.int x1), some (.int 5), some (.int 1)], [], hM0, 0, 0)) (v := some (.long 1)) (hs' := hB 5) (c' := 0) (s' := 0) rfl rfl (bf5_1 x1) ?_
  show mEnds [] 20 167 (44, [some (.ref 1), some (.int x1), some (.int 5), some (.int 1)], [.long 1], hB 5, 0, 0) _
  refine mEnds.steps 1 (q' := (50, [some (.ref 1), some (.int x1), some (.int 5), some (.int 1)], [.long 1], hB 5, 0, 0)) rfl ?_
  exact mEnds.ret rfl
set_option maxRecDepth 100000 in
theorem c25_FFFFFFv6v0 (x1 : Int32) (f0 : decide (x1 < 0) = false) (f1 : decide (10 < x1) = false) : ∃ hs', mEnds [] 20 82 (mentry 82 [.ref 1, .int x1, .int 6, .int 0] hC0) (some (.long 0), hs', 0, 0) := by
  obtain ⟨M, -, -, hw⟩ := wg0 (N := 6) (m := 0) x1 (by decide) (by decide) (by decide) (by decide)
  rw [hT_0] at hw
  refine ⟨(hT M), ?_⟩
  refine mEnds.steps 3 (q' := (3, [some (.ref 1), some (.int x1), some (.int 6), some (.int 0)], [.int 0, .int 6, .int x1], hC0, 0, 0)) rfl ?_
  refine mEnds.call (d := 19) (y' := 83) (as := [.int x1, .int 6, .int 0]) (q' := (6, [some (.ref 1), some (.int x1), some (.int 6), some (.int 0)], [], hC0, 0, 0)) (v := some (.int 1)) (hs' := hC0) (c' := 0) (s' := 0) rfl rfl ?_ ?_
  · refine mEnds.steps 3 (q' := (4, [some (.int x1), some (.int 6), some (.int 0)], [.int 10, .int 0, .int x1], hC0, 0, 0)) rfl ?_
    refine mEnds.call (d := 18) (y' := 105) (as := [.int x1, .int 0, .int 10]) (q' := (7, [some (.int x1), some (.int 6), some (.int 0)], [], hC0, 0, 0)) (v := some (.int 1)) (hs' := hC0) (c' := 0) (s' := 0) rfl rfl ?_ ?_
    · refine mEnds.steps 2 (q' := (2, [some (.int x1), some (.int 0), some (.int 10)], [.int 0, .int x1], hC0, 0, 0)) rfl ?_
      refine mEnds.brF (q' := (5, [some (.int x1), some (.int 0), some (.int 10)], [], hC0, 0, 0)) rfl f0 rfl ?_
      refine mEnds.steps 2 (q' := (7, [some (.int x1), some (.int 0), some (.int 10)], [.int 10, .int x1], hC0, 0, 0)) rfl ?_
      refine mEnds.brF (q' := (10, [some (.int x1), some (.int 0), some (.int 10)], [], hC0, 0, 0)) rfl f1 rfl ?_
      refine mEnds.steps 2 (q' := (15, [some (.int x1), some (.int 0), some (.int 10)], [.int 1], hC0, 0, 0)) rfl ?_
      exact mEnds.ret rfl
    show mEnds [] 19 83 (7, [some (.int x1), some (.int 6), some (.int 0)], [.int 1], hC0, 0, 0) _
    refine mEnds.steps 4 (q' := (14, [some (.int x1), some (.int 6), some (.int 0)], [.int 8, .int 0, .int 6], hC0, 0, 0)) rfl ?_
    refine mEnds.call (d := 18) (y' := 105) (as := [.int 6, .int 0, .int 8]) (q' := (17, [some (.int x1), some (.int 6), some (.int 0)], [], hC0, 0, 0)) (v := some (.int 1)) (hs' := hC0) (c' := 0) (s' := 0) rfl rfl ?_ ?_
    · refine mEnds.steps 8 (q' := (15, [some (.int 6), some (.int 0), some (.int 8)], [.int 1], hC0, 0, 0)) rfl ?_
      exact mEnds.ret rfl
    show mEnds [] 19 83 (17, [some (.int x1), some (.int 6), some (.int 0)], [.int 1], hC0, 0, 0) _
    refine mEnds.steps 4 (q' := (23, [some (.int x1), some (.int 6), some (.int 0)], [.int 1, .int 0, .int 0], hC0, 0, 0)) rfl ?_
    refine mEnds.call (d := 18) (y' := 105) (as := [.int 0, .int 0, .int 1]) (q' := (26, [some (.int x1), some (.int 6), some (.int 0)], [], hC0, 0, 0)) (v := some (.int 1)) (hs' := hC0) (c' := 0) (s' := 0) rfl rfl ?_ ?_
    · refine mEnds.steps 8 (q' := (15, [some (.int 0), some (.int 0), some (.int 1)], [.int 1], hC0, 0, 0)) rfl ?_
      exact mEnds.ret rfl
    show mEnds [] 19 83 (26, [some (.int x1), some (.int 6), some (.int 0)], [.int 1], hC0, 0, 0) _
    refine mEnds.steps 3 (q' := (34, [some (.int x1), some (.int 6), some (.int 0)], [.int 1], hC0, 0, 0)) rfl ?_
    exact mEnds.ret rfl
  show mEnds [] 20 82 (6, [some (.ref 1), some (.int x1), some (.int 6), some (.int 0)], [.int 1], hC0, 0, 0) _
  refine mEnds.steps 1 (q' := (13, [some (.ref 1), some (.int x1), some (.int 6), some (.int 0)], [], hC0, 0, 0)) rfl ?_
  refine mEnds.steps 6 (q' := (23, [some (.ref 1), some (.int x1), some (.int 6), some (.int 0)], [.ref 2, .ref 44], hC0, 0, 0)) rfl ?_
  refine mEnds.call (d := 19) (y' := 7) (as := [.ref 44, .ref 2]) (q' := (26, [some (.ref 1), some (.int x1), some (.int 6), some (.int 0)], [], hC0, 0, 0)) (v := none) (hs' := hC0) (c' := 0) (s' := 0) rfl rfl (mEnds.deep cpM 9) ?_
  show mEnds [] 20 82 (26, [some (.ref 1), some (.int x1), some (.int 6), some (.int 0)], [], hC0, 0, 0) _
  refine mEnds.steps 6 (q' := (33, [some (.ref 1), some (.int x1), some (.int 6), some (.int 0)], [.int 0, .int (-4), .int x1, .int 6, .int 0, .ref 1], hC0, 0, 0)) rfl ?_
  refine mEnds.call (d := 19) (y' := 84) (as := [.ref 1, .int 0, .int 6, .int x1, .int (-4), .int 0]) (q' := (36, [some (.ref 1), some (.int x1), some (.int 6), some (.int 0)], [], hC0, 0, 0)) (v := some (.long 0)) (hs' := hT M) (c' := 0) (s' := 0) rfl rfl hw ?_
  show mEnds [] 20 82 (36, [some (.ref 1), some (.int x1), some (.int 6), some (.int 0)], [.long 0], hT M, 0, 0) _
  refine mEnds.steps 1 (q' := (37, [some (.ref 1), some (.int x1), some (.int 6), some (.int 0)], [.int 6, .long 0], hT M, 0, 0)) rfl ?_
  refine mEnds.call (d := 19) (y' := 86) (as := [.int 6]) (q' := (40, [some (.ref 1), some (.int x1), some (.int 6), some (.int 0)], [.long 0], hT M, 0, 0)) (v := some (.long 1000000)) (hs' := hT M) (c' := 0) (s' := 0) rfl rfl (mEnds.deep (te6 _) 1) ?_
  show mEnds [] 20 82 (40, [some (.ref 1), some (.int x1), some (.int 6), some (.int 0)], [.long 1000000, .long 0], hT M, 0, 0) _
  refine mEnds.steps 1 (q' := (41, [some (.ref 1), some (.int x1), some (.int 6), some (.int 0)], [.int 0, .long 1000000, .long 0], hT M, 0, 0)) rfl ?_
  refine mEnds.call (d := 19) (y' := 87) (as := [.long 0, .long 1000000, .int 0]) (q' := (44, [some (.ref 1), some (.int x1), some (.int 6), some (.int 0)], [], hT M, 0, 0)) (v := some (.long 0)) (hs' := hT M) (c' := 0) (s' := 0) rfl rfl (mEnds.deep (of6_0 _) 1) ?_
  exact mEnds.ret rfl
set_option maxRecDepth 100000 in
theorem m25_FFFFFFv6v0 (x1 : Int32) (f0 : decide (x1 < 0) = false) (f1 : decide (10 < x1) = false) : ∃ hs', mEnds [] 20 167 (mentry 167 [.ref 1, .int x1, .int 6, .int 0] hM0) (some (.long 0), hs', 0, 0) := by
  refine ⟨(hB 6), ?_⟩
  refine mEnds.steps 4 (q' := (6, [some (.ref 1), some (.int x1), some (.int 6), some (.int 0)], [.long 10, .long 0, .long x1.toInt64], hM0, 0, 0)) rfl ?_
  refine mEnds.call (d := 19) (y' := 111) (as := [.long x1.toInt64, .long 0, .long 10]) (q' := (9, [some (.ref 1), some (.int x1), some (.int 6), some (.int 0)], [], hM0, 0, 0)) (v := some (.int 1)) (hs' := hM0) (c' := 0) (s' := 0) rfl rfl ?_ ?_
  · refine mEnds.steps 3 (q' := (3, [some (.long x1.toInt64), none, some (.long 0), none, some (.long 10), none], [.int (lg_cmp x1.toInt64 0)], hM0, 0, 0)) rfl ?_
    refine mEnds.brF (q' := (6, [some (.long x1.toInt64), none, some (.long 0), none, some (.long 10), none], [], hM0, 0, 0)) rfl (lgc_lt (c := 0) (by decide) f0) rfl ?_
    refine mEnds.steps 3 (q' := (10, [some (.long x1.toInt64), none, some (.long 0), none, some (.long 10), none], [.int (lg_cmp x1.toInt64 10)], hM0, 0, 0)) rfl ?_
    refine mEnds.brF (q' := (13, [some (.long x1.toInt64), none, some (.long 0), none, some (.long 10), none], [], hM0, 0, 0)) rfl (lgc_gt (c := 10) (by decide) f1) rfl ?_
    refine mEnds.steps 2 (q' := (18, [some (.long x1.toInt64), none, some (.long 0), none, some (.long 10), none], [.int 1], hM0, 0, 0)) rfl ?_
    exact mEnds.ret rfl
  show mEnds [] 20 167 (9, [some (.ref 1), some (.int x1), some (.int 6), some (.int 0)], [.int 1], hM0, 0, 0) _
  refine mEnds.steps 5 (q' := (18, [some (.ref 1), some (.int x1), some (.int 6), some (.int 0)], [.long 8, .long 0, .long 6], hM0, 0, 0)) rfl ?_
  refine mEnds.call (d := 19) (y' := 111) (as := [.long 6, .long 0, .long 8]) (q' := (21, [some (.ref 1), some (.int x1), some (.int 6), some (.int 0)], [], hM0, 0, 0)) (v := some (.int 1)) (hs' := hM0) (c' := 0) (s' := 0) rfl rfl ?_ ?_
  · refine mEnds.steps 10 (q' := (18, [some (.long 6), none, some (.long 0), none, some (.long 8), none], [.int 1], hM0, 0, 0)) rfl ?_
    exact mEnds.ret rfl
  show mEnds [] 20 167 (21, [some (.ref 1), some (.int x1), some (.int 6), some (.int 0)], [.int 1], hM0, 0, 0) _
  refine mEnds.steps 5 (q' := (28, [some (.ref 1), some (.int x1), some (.int 6), some (.int 0)], [.long 1, .long 0, .long 0], hM0, 0, 0)) rfl ?_
  refine mEnds.call (d := 19) (y' := 111) (as := [.long 0, .long 0, .long 1]) (q' := (31, [some (.ref 1), some (.int x1), some (.int 6), some (.int 0)], [], hM0, 0, 0)) (v := some (.int 1)) (hs' := hM0) (c' := 0) (s' := 0) rfl rfl ?_ ?_
  · refine mEnds.steps 10 (q' := (18, [some (.long 0), none, some (.long 0), none, some (.long 1), none], [.int 1], hM0, 0, 0)) rfl ?_
    exact mEnds.ret rfl
  show mEnds [] 20 167 (31, [some (.ref 1), some (.int x1), some (.int 6), some (.int 0)], [.int 1], hM0, 0, 0) _
  refine mEnds.steps 1 (q' := (34, [some (.ref 1), some (.int x1), some (.int 6), some (.int 0)], [], hM0, 0, 0)) rfl ?_
  refine mEnds.steps 6 (q' := (41, [some (.ref 1), some (.int x1), some (.int 6), some (.int 0)], [.int 0, .int 0, .int 6, .int (-4), .int x1, .ref 1], hM0, 0, 0)) rfl ?_
  refine mEnds.call (d := 19) (y' := 165) (as := [.ref 1, .int x1, .int (-4), .int 6, .int 0, .int 0]) (q' := (44, [some (.ref 1), some (.int x1), some (.int 6), some (.int 0)], [], hM0, 0, 0)) (v := some (.long 0)) (hs' := hB 6) (c' := 0) (s' := 0) rfl rfl (bf6_0 x1) ?_
  show mEnds [] 20 167 (44, [some (.ref 1), some (.int x1), some (.int 6), some (.int 0)], [.long 0], hB 6, 0, 0) _
  refine mEnds.steps 1 (q' := (50, [some (.ref 1), some (.int x1), some (.int 6), some (.int 0)], [.long 0], hB 6, 0, 0)) rfl ?_
  exact mEnds.ret rfl
set_option maxRecDepth 100000 in
theorem c25_FFFFFFv6v1 (x1 : Int32) (f0 : decide (x1 < 0) = false) (f1 : decide (10 < x1) = false) : ∃ hs', mEnds [] 20 82 (mentry 82 [.ref 1, .int x1, .int 6, .int 1] hC0) (some (.long 1), hs', 0, 0) := by
  obtain ⟨M, -, -, hw⟩ := wg0 (N := 6) (m := 0) x1 (by decide) (by decide) (by decide) (by decide)
  rw [hT_0] at hw
  refine ⟨(hT M), ?_⟩
  refine mEnds.steps 3 (q' := (3, [some (.ref 1), some (.int x1), some (.int 6), some (.int 1)], [.int 1, .int 6, .int x1], hC0, 0, 0)) rfl ?_
  refine mEnds.call (d := 19) (y' := 83) (as := [.int x1, .int 6, .int 1]) (q' := (6, [some (.ref 1), some (.int x1), some (.int 6), some (.int 1)], [], hC0, 0, 0)) (v := some (.int 1)) (hs' := hC0) (c' := 0) (s' := 0) rfl rfl ?_ ?_
  · refine mEnds.steps 3 (q' := (4, [some (.int x1), some (.int 6), some (.int 1)], [.int 10, .int 0, .int x1], hC0, 0, 0)) rfl ?_
    refine mEnds.call (d := 18) (y' := 105) (as := [.int x1, .int 0, .int 10]) (q' := (7, [some (.int x1), some (.int 6), some (.int 1)], [], hC0, 0, 0)) (v := some (.int 1)) (hs' := hC0) (c' := 0) (s' := 0) rfl rfl ?_ ?_
    · refine mEnds.steps 2 (q' := (2, [some (.int x1), some (.int 0), some (.int 10)], [.int 0, .int x1], hC0, 0, 0)) rfl ?_
      refine mEnds.brF (q' := (5, [some (.int x1), some (.int 0), some (.int 10)], [], hC0, 0, 0)) rfl f0 rfl ?_
      refine mEnds.steps 2 (q' := (7, [some (.int x1), some (.int 0), some (.int 10)], [.int 10, .int x1], hC0, 0, 0)) rfl ?_
      refine mEnds.brF (q' := (10, [some (.int x1), some (.int 0), some (.int 10)], [], hC0, 0, 0)) rfl f1 rfl ?_
      refine mEnds.steps 2 (q' := (15, [some (.int x1), some (.int 0), some (.int 10)], [.int 1], hC0, 0, 0)) rfl ?_
      exact mEnds.ret rfl
    show mEnds [] 19 83 (7, [some (.int x1), some (.int 6), some (.int 1)], [.int 1], hC0, 0, 0) _
    refine mEnds.steps 4 (q' := (14, [some (.int x1), some (.int 6), some (.int 1)], [.int 8, .int 0, .int 6], hC0, 0, 0)) rfl ?_
    refine mEnds.call (d := 18) (y' := 105) (as := [.int 6, .int 0, .int 8]) (q' := (17, [some (.int x1), some (.int 6), some (.int 1)], [], hC0, 0, 0)) (v := some (.int 1)) (hs' := hC0) (c' := 0) (s' := 0) rfl rfl ?_ ?_
    · refine mEnds.steps 8 (q' := (15, [some (.int 6), some (.int 0), some (.int 8)], [.int 1], hC0, 0, 0)) rfl ?_
      exact mEnds.ret rfl
    show mEnds [] 19 83 (17, [some (.int x1), some (.int 6), some (.int 1)], [.int 1], hC0, 0, 0) _
    refine mEnds.steps 4 (q' := (23, [some (.int x1), some (.int 6), some (.int 1)], [.int 1, .int 0, .int 1], hC0, 0, 0)) rfl ?_
    refine mEnds.call (d := 18) (y' := 105) (as := [.int 1, .int 0, .int 1]) (q' := (26, [some (.int x1), some (.int 6), some (.int 1)], [], hC0, 0, 0)) (v := some (.int 1)) (hs' := hC0) (c' := 0) (s' := 0) rfl rfl ?_ ?_
    · refine mEnds.steps 8 (q' := (15, [some (.int 1), some (.int 0), some (.int 1)], [.int 1], hC0, 0, 0)) rfl ?_
      exact mEnds.ret rfl
    show mEnds [] 19 83 (26, [some (.int x1), some (.int 6), some (.int 1)], [.int 1], hC0, 0, 0) _
    refine mEnds.steps 3 (q' := (34, [some (.int x1), some (.int 6), some (.int 1)], [.int 1], hC0, 0, 0)) rfl ?_
    exact mEnds.ret rfl
  show mEnds [] 20 82 (6, [some (.ref 1), some (.int x1), some (.int 6), some (.int 1)], [.int 1], hC0, 0, 0) _
  refine mEnds.steps 1 (q' := (13, [some (.ref 1), some (.int x1), some (.int 6), some (.int 1)], [], hC0, 0, 0)) rfl ?_
  refine mEnds.steps 6 (q' := (23, [some (.ref 1), some (.int x1), some (.int 6), some (.int 1)], [.ref 2, .ref 44], hC0, 0, 0)) rfl ?_
  refine mEnds.call (d := 19) (y' := 7) (as := [.ref 44, .ref 2]) (q' := (26, [some (.ref 1), some (.int x1), some (.int 6), some (.int 1)], [], hC0, 0, 0)) (v := none) (hs' := hC0) (c' := 0) (s' := 0) rfl rfl (mEnds.deep cpM 9) ?_
  show mEnds [] 20 82 (26, [some (.ref 1), some (.int x1), some (.int 6), some (.int 1)], [], hC0, 0, 0) _
  refine mEnds.steps 6 (q' := (33, [some (.ref 1), some (.int x1), some (.int 6), some (.int 1)], [.int 0, .int (-4), .int x1, .int 6, .int 0, .ref 1], hC0, 0, 0)) rfl ?_
  refine mEnds.call (d := 19) (y' := 84) (as := [.ref 1, .int 0, .int 6, .int x1, .int (-4), .int 0]) (q' := (36, [some (.ref 1), some (.int x1), some (.int 6), some (.int 1)], [], hC0, 0, 0)) (v := some (.long 0)) (hs' := hT M) (c' := 0) (s' := 0) rfl rfl hw ?_
  show mEnds [] 20 82 (36, [some (.ref 1), some (.int x1), some (.int 6), some (.int 1)], [.long 0], hT M, 0, 0) _
  refine mEnds.steps 1 (q' := (37, [some (.ref 1), some (.int x1), some (.int 6), some (.int 1)], [.int 6, .long 0], hT M, 0, 0)) rfl ?_
  refine mEnds.call (d := 19) (y' := 86) (as := [.int 6]) (q' := (40, [some (.ref 1), some (.int x1), some (.int 6), some (.int 1)], [.long 0], hT M, 0, 0)) (v := some (.long 1000000)) (hs' := hT M) (c' := 0) (s' := 0) rfl rfl (mEnds.deep (te6 _) 1) ?_
  show mEnds [] 20 82 (40, [some (.ref 1), some (.int x1), some (.int 6), some (.int 1)], [.long 1000000, .long 0], hT M, 0, 0) _
  refine mEnds.steps 1 (q' := (41, [some (.ref 1), some (.int x1), some (.int 6), some (.int 1)], [.int 1, .long 1000000, .long 0], hT M, 0, 0)) rfl ?_
  refine mEnds.call (d := 19) (y' := 87) (as := [.long 0, .long 1000000, .int 1]) (q' := (44, [some (.ref 1), some (.int x1), some (.int 6), some (.int 1)], [], hT M, 0, 0)) (v := some (.long 1)) (hs' := hT M) (c' := 0) (s' := 0) rfl rfl (mEnds.deep (of6_1 _) 1) ?_
  exact mEnds.ret rfl
set_option maxRecDepth 100000 in
theorem m25_FFFFFFv6v1 (x1 : Int32) (f0 : decide (x1 < 0) = false) (f1 : decide (10 < x1) = false) : ∃ hs', mEnds [] 20 167 (mentry 167 [.ref 1, .int x1, .int 6, .int 1] hM0) (some (.long 1), hs', 0, 0) := by
  refine ⟨(hB 6), ?_⟩
  refine mEnds.steps 4 (q' := (6, [some (.ref 1), some (.int x1), some (.int 6), some (.int 1)], [.long 10, .long 0, .long x1.toInt64], hM0, 0, 0)) rfl ?_
  refine mEnds.call (d := 19) (y' := 111) (as := [.long x1.toInt64, .long 0, .long 10]) (q' := (9, [some (.ref 1), some (.int x1), some (.int 6), some (.int 1)], [], hM0, 0, 0)) (v := some (.int 1)) (hs' := hM0) (c' := 0) (s' := 0) rfl rfl ?_ ?_
  · refine mEnds.steps 3 (q' := (3, [some (.long x1.toInt64), none, some (.long 0), none, some (.long 10), none], [.int (lg_cmp x1.toInt64 0)], hM0, 0, 0)) rfl ?_
    refine mEnds.brF (q' := (6, [some (.long x1.toInt64), none, some (.long 0), none, some (.long 10), none], [], hM0, 0, 0)) rfl (lgc_lt (c := 0) (by decide) f0) rfl ?_
    refine mEnds.steps 3 (q' := (10, [some (.long x1.toInt64), none, some (.long 0), none, some (.long 10), none], [.int (lg_cmp x1.toInt64 10)], hM0, 0, 0)) rfl ?_
    refine mEnds.brF (q' := (13, [some (.long x1.toInt64), none, some (.long 0), none, some (.long 10), none], [], hM0, 0, 0)) rfl (lgc_gt (c := 10) (by decide) f1) rfl ?_
    refine mEnds.steps 2 (q' := (18, [some (.long x1.toInt64), none, some (.long 0), none, some (.long 10), none], [.int 1], hM0, 0, 0)) rfl ?_
    exact mEnds.ret rfl
  show mEnds [] 20 167 (9, [some (.ref 1), some (.int x1), some (.int 6), some (.int 1)], [.int 1], hM0, 0, 0) _
  refine mEnds.steps 5 (q' := (18, [some (.ref 1), some (.int x1), some (.int 6), some (.int 1)], [.long 8, .long 0, .long 6], hM0, 0, 0)) rfl ?_
  refine mEnds.call (d := 19) (y' := 111) (as := [.long 6, .long 0, .long 8]) (q' := (21, [some (.ref 1), some (.int x1), some (.int 6), some (.int 1)], [], hM0, 0, 0)) (v := some (.int 1)) (hs' := hM0) (c' := 0) (s' := 0) rfl rfl ?_ ?_
  · refine mEnds.steps 10 (q' := (18, [some (.long 6), none, some (.long 0), none, some (.long 8), none], [.int 1], hM0, 0, 0)) rfl ?_
    exact mEnds.ret rfl
  show mEnds [] 20 167 (21, [some (.ref 1), some (.int x1), some (.int 6), some (.int 1)], [.int 1], hM0, 0, 0) _
  refine mEnds.steps 5 (q' := (28, [some (.ref 1), some (.int x1), some (.int 6), some (.int 1)], [.long 1, .long 0, .long 1], hM0, 0, 0)) rfl ?_
  refine mEnds.call (d := 19) (y' := 111) (as := [.long 1, .long 0, .long 1]) (q' := (31, [some (.ref 1), some (.int x1), some (.int 6), some (.int 1)], [], hM0, 0, 0)) (v := some (.int 1)) (hs' := hM0) (c' := 0) (s' := 0) rfl rfl ?_ ?_
  · refine mEnds.steps 10 (q' := (18, [some (.long 1), none, some (.long 0), none, some (.long 1), none], [.int 1], hM0, 0, 0)) rfl ?_
    exact mEnds.ret rfl
  show mEnds [] 20 167 (31, [some (.ref 1), some (.int x1), some (.int 6), some (.int 1)], [.int 1], hM0, 0, 0) _
  refine mEnds.steps 1 (q' := (34, [some (.ref 1), some (.int x1), some (.int 6), some (.int 1)], [], hM0, 0, 0)) rfl ?_
  refine mEnds.steps 6 (q' := (41, [some (.ref 1), some (.int x1), some (.int 6), some (.int 1)], [.int 1, .int 0, .int 6, .int (-4), .int x1, .ref 1], hM0, 0, 0)) rfl ?_
  refine mEnds.call (d := 19) (y' := 165) (as := [.ref 1, .int x1, .int (-4), .int 6, .int 0, .int 1]) (q' := (44, [some (.ref 1), some (.int x1), some (.int 6), some (.int 1)], [], hM0, 0, 0)) (v := some (.long 1)) (hs' := hB 6) (c' := 0) (s' := 0) rfl rfl (bf6_1 x1) ?_
  show mEnds [] 20 167 (44, [some (.ref 1), some (.int x1), some (.int 6), some (.int 1)], [.long 1], hB 6, 0, 0) _
  refine mEnds.steps 1 (q' := (50, [some (.ref 1), some (.int x1), some (.int 6), some (.int 1)], [.long 1], hB 6, 0, 0)) rfl ?_
  exact mEnds.ret rfl
set_option maxRecDepth 100000 in
theorem c25_FFFFFFv7v0 (x1 : Int32) (f0 : decide (x1 < 0) = false) (f1 : decide (10 < x1) = false) : ∃ hs', mEnds [] 20 82 (mentry 82 [.ref 1, .int x1, .int 7, .int 0] hC0) (some (.long 0), hs', 0, 0) := by
  obtain ⟨M, -, -, hw⟩ := wg0 (N := 7) (m := 0) x1 (by decide) (by decide) (by decide) (by decide)
  rw [hT_0] at hw
  refine ⟨(hT M), ?_⟩
  refine mEnds.steps 3 (q' := (3, [some (.ref 1), some (.int x1), some (.int 7), some (.int 0)], [.int 0, .int 7, .int x1], hC0, 0, 0)) rfl ?_
  refine mEnds.call (d := 19) (y' := 83) (as := [.int x1, .int 7, .int 0]) (q' := (6, [some (.ref 1), some (.int x1), some (.int 7), some (.int 0)], [], hC0, 0, 0)) (v := some (.int 1)) (hs' := hC0) (c' := 0) (s' := 0) rfl rfl ?_ ?_
  · refine mEnds.steps 3 (q' := (4, [some (.int x1), some (.int 7), some (.int 0)], [.int 10, .int 0, .int x1], hC0, 0, 0)) rfl ?_
    refine mEnds.call (d := 18) (y' := 105) (as := [.int x1, .int 0, .int 10]) (q' := (7, [some (.int x1), some (.int 7), some (.int 0)], [], hC0, 0, 0)) (v := some (.int 1)) (hs' := hC0) (c' := 0) (s' := 0) rfl rfl ?_ ?_
    · refine mEnds.steps 2 (q' := (2, [some (.int x1), some (.int 0), some (.int 10)], [.int 0, .int x1], hC0, 0, 0)) rfl ?_
      refine mEnds.brF (q' := (5, [some (.int x1), some (.int 0), some (.int 10)], [], hC0, 0, 0)) rfl f0 rfl ?_
      refine mEnds.steps 2 (q' := (7, [some (.int x1), some (.int 0), some (.int 10)], [.int 10, .int x1], hC0, 0, 0)) rfl ?_
      refine mEnds.brF (q' := (10, [some (.int x1), some (.int 0), some (.int 10)], [], hC0, 0, 0)) rfl f1 rfl ?_
      refine mEnds.steps 2 (q' := (15, [some (.int x1), some (.int 0), some (.int 10)], [.int 1], hC0, 0, 0)) rfl ?_
      exact mEnds.ret rfl
    show mEnds [] 19 83 (7, [some (.int x1), some (.int 7), some (.int 0)], [.int 1], hC0, 0, 0) _
    refine mEnds.steps 4 (q' := (14, [some (.int x1), some (.int 7), some (.int 0)], [.int 8, .int 0, .int 7], hC0, 0, 0)) rfl ?_
    refine mEnds.call (d := 18) (y' := 105) (as := [.int 7, .int 0, .int 8]) (q' := (17, [some (.int x1), some (.int 7), some (.int 0)], [], hC0, 0, 0)) (v := some (.int 1)) (hs' := hC0) (c' := 0) (s' := 0) rfl rfl ?_ ?_
    · refine mEnds.steps 8 (q' := (15, [some (.int 7), some (.int 0), some (.int 8)], [.int 1], hC0, 0, 0)) rfl ?_
      exact mEnds.ret rfl
    show mEnds [] 19 83 (17, [some (.int x1), some (.int 7), some (.int 0)], [.int 1], hC0, 0, 0) _
    refine mEnds.steps 4 (q' := (23, [some (.int x1), some (.int 7), some (.int 0)], [.int 1, .int 0, .int 0], hC0, 0, 0)) rfl ?_
    refine mEnds.call (d := 18) (y' := 105) (as := [.int 0, .int 0, .int 1]) (q' := (26, [some (.int x1), some (.int 7), some (.int 0)], [], hC0, 0, 0)) (v := some (.int 1)) (hs' := hC0) (c' := 0) (s' := 0) rfl rfl ?_ ?_
    · refine mEnds.steps 8 (q' := (15, [some (.int 0), some (.int 0), some (.int 1)], [.int 1], hC0, 0, 0)) rfl ?_
      exact mEnds.ret rfl
    show mEnds [] 19 83 (26, [some (.int x1), some (.int 7), some (.int 0)], [.int 1], hC0, 0, 0) _
    refine mEnds.steps 3 (q' := (34, [some (.int x1), some (.int 7), some (.int 0)], [.int 1], hC0, 0, 0)) rfl ?_
    exact mEnds.ret rfl
  show mEnds [] 20 82 (6, [some (.ref 1), some (.int x1), some (.int 7), some (.int 0)], [.int 1], hC0, 0, 0) _
  refine mEnds.steps 1 (q' := (13, [some (.ref 1), some (.int x1), some (.int 7), some (.int 0)], [], hC0, 0, 0)) rfl ?_
  refine mEnds.steps 6 (q' := (23, [some (.ref 1), some (.int x1), some (.int 7), some (.int 0)], [.ref 2, .ref 44], hC0, 0, 0)) rfl ?_
  refine mEnds.call (d := 19) (y' := 7) (as := [.ref 44, .ref 2]) (q' := (26, [some (.ref 1), some (.int x1), some (.int 7), some (.int 0)], [], hC0, 0, 0)) (v := none) (hs' := hC0) (c' := 0) (s' := 0) rfl rfl (mEnds.deep cpM 9) ?_
  show mEnds [] 20 82 (26, [some (.ref 1), some (.int x1), some (.int 7), some (.int 0)], [], hC0, 0, 0) _
  refine mEnds.steps 6 (q' := (33, [some (.ref 1), some (.int x1), some (.int 7), some (.int 0)], [.int 0, .int (-4), .int x1, .int 7, .int 0, .ref 1], hC0, 0, 0)) rfl ?_
  refine mEnds.call (d := 19) (y' := 84) (as := [.ref 1, .int 0, .int 7, .int x1, .int (-4), .int 0]) (q' := (36, [some (.ref 1), some (.int x1), some (.int 7), some (.int 0)], [], hC0, 0, 0)) (v := some (.long 0)) (hs' := hT M) (c' := 0) (s' := 0) rfl rfl hw ?_
  show mEnds [] 20 82 (36, [some (.ref 1), some (.int x1), some (.int 7), some (.int 0)], [.long 0], hT M, 0, 0) _
  refine mEnds.steps 1 (q' := (37, [some (.ref 1), some (.int x1), some (.int 7), some (.int 0)], [.int 7, .long 0], hT M, 0, 0)) rfl ?_
  refine mEnds.call (d := 19) (y' := 86) (as := [.int 7]) (q' := (40, [some (.ref 1), some (.int x1), some (.int 7), some (.int 0)], [.long 0], hT M, 0, 0)) (v := some (.long 10000000)) (hs' := hT M) (c' := 0) (s' := 0) rfl rfl (mEnds.deep (te7 _) 1) ?_
  show mEnds [] 20 82 (40, [some (.ref 1), some (.int x1), some (.int 7), some (.int 0)], [.long 10000000, .long 0], hT M, 0, 0) _
  refine mEnds.steps 1 (q' := (41, [some (.ref 1), some (.int x1), some (.int 7), some (.int 0)], [.int 0, .long 10000000, .long 0], hT M, 0, 0)) rfl ?_
  refine mEnds.call (d := 19) (y' := 87) (as := [.long 0, .long 10000000, .int 0]) (q' := (44, [some (.ref 1), some (.int x1), some (.int 7), some (.int 0)], [], hT M, 0, 0)) (v := some (.long 0)) (hs' := hT M) (c' := 0) (s' := 0) rfl rfl (mEnds.deep (of7_0 _) 1) ?_
  exact mEnds.ret rfl
set_option maxRecDepth 100000 in
theorem m25_FFFFFFv7v0 (x1 : Int32) (f0 : decide (x1 < 0) = false) (f1 : decide (10 < x1) = false) : ∃ hs', mEnds [] 20 167 (mentry 167 [.ref 1, .int x1, .int 7, .int 0] hM0) (some (.long 0), hs', 0, 0) := by
  refine ⟨(hB 7), ?_⟩
  refine mEnds.steps 4 (q' := (6, [some (.ref 1), some (.int x1), some (.int 7), some (.int 0)], [.long 10, .long 0, .long x1.toInt64], hM0, 0, 0)) rfl ?_
  refine mEnds.call (d := 19) (y' := 111) (as := [.long x1.toInt64, .long 0, .long 10]) (q' := (9, [some (.ref 1), some (.int x1), some (.int 7), some (.int 0)], [], hM0, 0, 0)) (v := some (.int 1)) (hs' := hM0) (c' := 0) (s' := 0) rfl rfl ?_ ?_
  · refine mEnds.steps 3 (q' := (3, [some (.long x1.toInt64), none, some (.long 0), none, some (.long 10), none], [.int (lg_cmp x1.toInt64 0)], hM0, 0, 0)) rfl ?_
    refine mEnds.brF (q' := (6, [some (.long x1.toInt64), none, some (.long 0), none, some (.long 10), none], [], hM0, 0, 0)) rfl (lgc_lt (c := 0) (by decide) f0) rfl ?_
    refine mEnds.steps 3 (q' := (10, [some (.long x1.toInt64), none, some (.long 0), none, some (.long 10), none], [.int (lg_cmp x1.toInt64 10)], hM0, 0, 0)) rfl ?_
    refine mEnds.brF (q' := (13, [some (.long x1.toInt64), none, some (.long 0), none, some (.long 10), none], [], hM0, 0, 0)) rfl (lgc_gt (c := 10) (by decide) f1) rfl ?_
    refine mEnds.steps 2 (q' := (18, [some (.long x1.toInt64), none, some (.long 0), none, some (.long 10), none], [.int 1], hM0, 0, 0)) rfl ?_
    exact mEnds.ret rfl
  show mEnds [] 20 167 (9, [some (.ref 1), some (.int x1), some (.int 7), some (.int 0)], [.int 1], hM0, 0, 0) _
  refine mEnds.steps 5 (q' := (18, [some (.ref 1), some (.int x1), some (.int 7), some (.int 0)], [.long 8, .long 0, .long 7], hM0, 0, 0)) rfl ?_
  refine mEnds.call (d := 19) (y' := 111) (as := [.long 7, .long 0, .long 8]) (q' := (21, [some (.ref 1), some (.int x1), some (.int 7), some (.int 0)], [], hM0, 0, 0)) (v := some (.int 1)) (hs' := hM0) (c' := 0) (s' := 0) rfl rfl ?_ ?_
  · refine mEnds.steps 10 (q' := (18, [some (.long 7), none, some (.long 0), none, some (.long 8), none], [.int 1], hM0, 0, 0)) rfl ?_
    exact mEnds.ret rfl
  show mEnds [] 20 167 (21, [some (.ref 1), some (.int x1), some (.int 7), some (.int 0)], [.int 1], hM0, 0, 0) _
  refine mEnds.steps 5 (q' := (28, [some (.ref 1), some (.int x1), some (.int 7), some (.int 0)], [.long 1, .long 0, .long 0], hM0, 0, 0)) rfl ?_
  refine mEnds.call (d := 19) (y' := 111) (as := [.long 0, .long 0, .long 1]) (q' := (31, [some (.ref 1), some (.int x1), some (.int 7), some (.int 0)], [], hM0, 0, 0)) (v := some (.int 1)) (hs' := hM0) (c' := 0) (s' := 0) rfl rfl ?_ ?_
  · refine mEnds.steps 10 (q' := (18, [some (.long 0), none, some (.long 0), none, some (.long 1), none], [.int 1], hM0, 0, 0)) rfl ?_
    exact mEnds.ret rfl
  show mEnds [] 20 167 (31, [some (.ref 1), some (.int x1), some (.int 7), some (.int 0)], [.int 1], hM0, 0, 0) _
  refine mEnds.steps 1 (q' := (34, [some (.ref 1), some (.int x1), some (.int 7), some (.int 0)], [], hM0, 0, 0)) rfl ?_
  refine mEnds.steps 6 (q' := (41, [some (.ref 1), some (.int x1), some (.int 7), some (.int 0)], [.int 0, .int 0, .int 7, .int (-4), .int x1, .ref 1], hM0, 0, 0)) rfl ?_
  refine mEnds.call (d := 19) (y' := 165) (as := [.ref 1, .int x1, .int (-4), .int 7, .int 0, .int 0]) (q' := (44, [some (.ref 1), some (.int x1), some (.int 7), some (.int 0)], [], hM0, 0, 0)) (v := some (.long 0)) (hs' := hB 7) (c' := 0) (s' := 0) rfl rfl (bf7_0 x1) ?_
  show mEnds [] 20 167 (44, [some (.ref 1), some (.int x1), some (.int 7), some (.int 0)], [.long 0], hB 7, 0, 0) _
  refine mEnds.steps 1 (q' := (50, [some (.ref 1), some (.int x1), some (.int 7), some (.int 0)], [.long 0], hB 7, 0, 0)) rfl ?_
  exact mEnds.ret rfl
set_option maxRecDepth 100000 in
theorem c25_FFFFFFv7v1 (x1 : Int32) (f0 : decide (x1 < 0) = false) (f1 : decide (10 < x1) = false) : ∃ hs', mEnds [] 20 82 (mentry 82 [.ref 1, .int x1, .int 7, .int 1] hC0) (some (.long 1), hs', 0, 0) := by
  obtain ⟨M, -, -, hw⟩ := wg0 (N := 7) (m := 0) x1 (by decide) (by decide) (by decide) (by decide)
  rw [hT_0] at hw
  refine ⟨(hT M), ?_⟩
  refine mEnds.steps 3 (q' := (3, [some (.ref 1), some (.int x1), some (.int 7), some (.int 1)], [.int 1, .int 7, .int x1], hC0, 0, 0)) rfl ?_
  refine mEnds.call (d := 19) (y' := 83) (as := [.int x1, .int 7, .int 1]) (q' := (6, [some (.ref 1), some (.int x1), some (.int 7), some (.int 1)], [], hC0, 0, 0)) (v := some (.int 1)) (hs' := hC0) (c' := 0) (s' := 0) rfl rfl ?_ ?_
  · refine mEnds.steps 3 (q' := (4, [some (.int x1), some (.int 7), some (.int 1)], [.int 10, .int 0, .int x1], hC0, 0, 0)) rfl ?_
    refine mEnds.call (d := 18) (y' := 105) (as := [.int x1, .int 0, .int 10]) (q' := (7, [some (.int x1), some (.int 7), some (.int 1)], [], hC0, 0, 0)) (v := some (.int 1)) (hs' := hC0) (c' := 0) (s' := 0) rfl rfl ?_ ?_
    · refine mEnds.steps 2 (q' := (2, [some (.int x1), some (.int 0), some (.int 10)], [.int 0, .int x1], hC0, 0, 0)) rfl ?_
      refine mEnds.brF (q' := (5, [some (.int x1), some (.int 0), some (.int 10)], [], hC0, 0, 0)) rfl f0 rfl ?_
      refine mEnds.steps 2 (q' := (7, [some (.int x1), some (.int 0), some (.int 10)], [.int 10, .int x1], hC0, 0, 0)) rfl ?_
      refine mEnds.brF (q' := (10, [some (.int x1), some (.int 0), some (.int 10)], [], hC0, 0, 0)) rfl f1 rfl ?_
      refine mEnds.steps 2 (q' := (15, [some (.int x1), some (.int 0), some (.int 10)], [.int 1], hC0, 0, 0)) rfl ?_
      exact mEnds.ret rfl
    show mEnds [] 19 83 (7, [some (.int x1), some (.int 7), some (.int 1)], [.int 1], hC0, 0, 0) _
    refine mEnds.steps 4 (q' := (14, [some (.int x1), some (.int 7), some (.int 1)], [.int 8, .int 0, .int 7], hC0, 0, 0)) rfl ?_
    refine mEnds.call (d := 18) (y' := 105) (as := [.int 7, .int 0, .int 8]) (q' := (17, [some (.int x1), some (.int 7), some (.int 1)], [], hC0, 0, 0)) (v := some (.int 1)) (hs' := hC0) (c' := 0) (s' := 0) rfl rfl ?_ ?_
    · refine mEnds.steps 8 (q' := (15, [some (.int 7), some (.int 0), some (.int 8)], [.int 1], hC0, 0, 0)) rfl ?_
      exact mEnds.ret rfl
    show mEnds [] 19 83 (17, [some (.int x1), some (.int 7), some (.int 1)], [.int 1], hC0, 0, 0) _
    refine mEnds.steps 4 (q' := (23, [some (.int x1), some (.int 7), some (.int 1)], [.int 1, .int 0, .int 1], hC0, 0, 0)) rfl ?_
    refine mEnds.call (d := 18) (y' := 105) (as := [.int 1, .int 0, .int 1]) (q' := (26, [some (.int x1), some (.int 7), some (.int 1)], [], hC0, 0, 0)) (v := some (.int 1)) (hs' := hC0) (c' := 0) (s' := 0) rfl rfl ?_ ?_
    · refine mEnds.steps 8 (q' := (15, [some (.int 1), some (.int 0), some (.int 1)], [.int 1], hC0, 0, 0)) rfl ?_
      exact mEnds.ret rfl
    show mEnds [] 19 83 (26, [some (.int x1), some (.int 7), some (.int 1)], [.int 1], hC0, 0, 0) _
    refine mEnds.steps 3 (q' := (34, [some (.int x1), some (.int 7), some (.int 1)], [.int 1], hC0, 0, 0)) rfl ?_
    exact mEnds.ret rfl
  show mEnds [] 20 82 (6, [some (.ref 1), some (.int x1), some (.int 7), some (.int 1)], [.int 1], hC0, 0, 0) _
  refine mEnds.steps 1 (q' := (13, [some (.ref 1), some (.int x1), some (.int 7), some (.int 1)], [], hC0, 0, 0)) rfl ?_
  refine mEnds.steps 6 (q' := (23, [some (.ref 1), some (.int x1), some (.int 7), some (.int 1)], [.ref 2, .ref 44], hC0, 0, 0)) rfl ?_
  refine mEnds.call (d := 19) (y' := 7) (as := [.ref 44, .ref 2]) (q' := (26, [some (.ref 1), some (.int x1), some (.int 7), some (.int 1)], [], hC0, 0, 0)) (v := none) (hs' := hC0) (c' := 0) (s' := 0) rfl rfl (mEnds.deep cpM 9) ?_
  show mEnds [] 20 82 (26, [some (.ref 1), some (.int x1), some (.int 7), some (.int 1)], [], hC0, 0, 0) _
  refine mEnds.steps 6 (q' := (33, [some (.ref 1), some (.int x1), some (.int 7), some (.int 1)], [.int 0, .int (-4), .int x1, .int 7, .int 0, .ref 1], hC0, 0, 0)) rfl ?_
  refine mEnds.call (d := 19) (y' := 84) (as := [.ref 1, .int 0, .int 7, .int x1, .int (-4), .int 0]) (q' := (36, [some (.ref 1), some (.int x1), some (.int 7), some (.int 1)], [], hC0, 0, 0)) (v := some (.long 0)) (hs' := hT M) (c' := 0) (s' := 0) rfl rfl hw ?_
  show mEnds [] 20 82 (36, [some (.ref 1), some (.int x1), some (.int 7), some (.int 1)], [.long 0], hT M, 0, 0) _
  refine mEnds.steps 1 (q' := (37, [some (.ref 1), some (.int x1), some (.int 7), some (.int 1)], [.int 7, .long 0], hT M, 0, 0)) rfl ?_
  refine mEnds.call (d := 19) (y' := 86) (as := [.int 7]) (q' := (40, [some (.ref 1), some (.int x1), some (.int 7), some (.int 1)], [.long 0], hT M, 0, 0)) (v := some (.long 10000000)) (hs' := hT M) (c' := 0) (s' := 0) rfl rfl (mEnds.deep (te7 _) 1) ?_
  show mEnds [] 20 82 (40, [some (.ref 1), some (.int x1), some (.int 7), some (.int 1)], [.long 10000000, .long 0], hT M, 0, 0) _
  refine mEnds.steps 1 (q' := (41, [some (.ref 1), some (.int x1), some (.int 7), some (.int 1)], [.int 1, .long 10000000, .long 0], hT M, 0, 0)) rfl ?_
  refine mEnds.call (d := 19) (y' := 87) (as := [.long 0, .long 10000000, .int 1]) (q' := (44, [some (.ref 1), some (.int x1), some (.int 7), some (.int 1)], [], hT M, 0, 0)) (v := some (.long 1)) (hs' := hT M) (c' := 0) (s' := 0) rfl rfl (mEnds.deep (of7_1 _) 1) ?_
  exact mEnds.ret rfl
set_option maxRecDepth 100000 in
theorem m25_FFFFFFv7v1 (x1 : Int32) (f0 : decide (x1 < 0) = false) (f1 : decide (10 < x1) = false) : ∃ hs', mEnds [] 20 167 (mentry 167 [.ref 1, .int x1, .int 7, .int 1] hM0) (some (.long 1), hs', 0, 0) := by
  refine ⟨(hB 7), ?_⟩
  refine mEnds.steps 4 (q' := (6, [some (.ref 1), some (.int x1), some (.int 7), some (.int 1)], [.long 10, .long 0, .long x1.toInt64], hM0, 0, 0)) rfl ?_
  refine mEnds.call (d := 19) (y' := 111) (as := [.long x1.toInt64, .long 0, .long 10]) (q' := (9, [some (.ref 1), some (.int x1), some (.int 7), some (.int 1)], [], hM0, 0, 0)) (v := some (.int 1)) (hs' := hM0) (c' := 0) (s' := 0) rfl rfl ?_ ?_
  · refine mEnds.steps 3 (q' := (3, [some (.long x1.toInt64), none, some (.long 0), none, some (.long 10), none], [.int (lg_cmp x1.toInt64 0)], hM0, 0, 0)) rfl ?_
    refine mEnds.brF (q' := (6, [some (.long x1.toInt64), none, some (.long 0), none, some (.long 10), none], [], hM0, 0, 0)) rfl (lgc_lt (c := 0) (by decide) f0) rfl ?_
    refine mEnds.steps 3 (q' := (10, [some (.long x1.toInt64), none, some (.long 0), none, some (.long 10), none], [.int (lg_cmp x1.toInt64 10)], hM0, 0, 0)) rfl ?_
    refine mEnds.brF (q' := (13, [some (.long x1.toInt64), none, some (.long 0), none, some (.long 10), none], [], hM0, 0, 0)) rfl (lgc_gt (c := 10) (by decide) f1) rfl ?_
    refine mEnds.steps 2 (q' := (18, [some (.long x1.toInt64), none, some (.long 0), none, some (.long 10), none], [.int 1], hM0, 0, 0)) rfl ?_
    exact mEnds.ret rfl
  show mEnds [] 20 167 (9, [some (.ref 1), some (.int x1), some (.int 7), some (.int 1)], [.int 1], hM0, 0, 0) _
  refine mEnds.steps 5 (q' := (18, [some (.ref 1), some (.int x1), some (.int 7), some (.int 1)], [.long 8, .long 0, .long 7], hM0, 0, 0)) rfl ?_
  refine mEnds.call (d := 19) (y' := 111) (as := [.long 7, .long 0, .long 8]) (q' := (21, [some (.ref 1), some (.int x1), some (.int 7), some (.int 1)], [], hM0, 0, 0)) (v := some (.int 1)) (hs' := hM0) (c' := 0) (s' := 0) rfl rfl ?_ ?_
  · refine mEnds.steps 10 (q' := (18, [some (.long 7), none, some (.long 0), none, some (.long 8), none], [.int 1], hM0, 0, 0)) rfl ?_
    exact mEnds.ret rfl
  show mEnds [] 20 167 (21, [some (.ref 1), some (.int x1), some (.int 7), some (.int 1)], [.int 1], hM0, 0, 0) _
  refine mEnds.steps 5 (q' := (28, [some (.ref 1), some (.int x1), some (.int 7), some (.int 1)], [.long 1, .long 0, .long 1], hM0, 0, 0)) rfl ?_
  refine mEnds.call (d := 19) (y' := 111) (as := [.long 1, .long 0, .long 1]) (q' := (31, [some (.ref 1), some (.int x1), some (.int 7), some (.int 1)], [], hM0, 0, 0)) (v := some (.int 1)) (hs' := hM0) (c' := 0) (s' := 0) rfl rfl ?_ ?_
  · refine mEnds.steps 10 (q' := (18, [some (.long 1), none, some (.long 0), none, some (.long 1), none], [.int 1], hM0, 0, 0)) rfl ?_
    exact mEnds.ret rfl
  show mEnds [] 20 167 (31, [some (.ref 1), some (.int x1), some (.int 7), some (.int 1)], [.int 1], hM0, 0, 0) _
  refine mEnds.steps 1 (q' := (34, [some (.ref 1), some (.int x1), some (.int 7), some (.int 1)], [], hM0, 0, 0)) rfl ?_
  refine mEnds.steps 6 (q' := (41, [some (.ref 1), some (.int x1), some (.int 7), some (.int 1)], [.int 1, .int 0, .int 7, .int (-4), .int x1, .ref 1], hM0, 0, 0)) rfl ?_
  refine mEnds.call (d := 19) (y' := 165) (as := [.ref 1, .int x1, .int (-4), .int 7, .int 0, .int 1]) (q' := (44, [some (.ref 1), some (.int x1), some (.int 7), some (.int 1)], [], hM0, 0, 0)) (v := some (.long 1)) (hs' := hB 7) (c' := 0) (s' := 0) rfl rfl (bf7_1 x1) ?_
  show mEnds [] 20 167 (44, [some (.ref 1), some (.int x1), some (.int 7), some (.int 1)], [.long 1], hB 7, 0, 0) _
  refine mEnds.steps 1 (q' := (50, [some (.ref 1), some (.int x1), some (.int 7), some (.int 1)], [.long 1], hB 7, 0, 0)) rfl ?_
  exact mEnds.ret rfl
set_option maxRecDepth 100000 in
theorem c25_FFFFFFv8v0 (x1 : Int32) (f0 : decide (x1 < 0) = false) (f1 : decide (10 < x1) = false) : ∃ hs', mEnds [] 20 82 (mentry 82 [.ref 1, .int x1, .int 8, .int 0] hC0) (some (.long 0), hs', 0, 0) := by
  obtain ⟨M, -, -, hw⟩ := wg0 (N := 8) (m := 0) x1 (by decide) (by decide) (by decide) (by decide)
  rw [hT_0] at hw
  refine ⟨(hT M), ?_⟩
  refine mEnds.steps 3 (q' := (3, [some (.ref 1), some (.int x1), some (.int 8), some (.int 0)], [.int 0, .int 8, .int x1], hC0, 0, 0)) rfl ?_
  refine mEnds.call (d := 19) (y' := 83) (as := [.int x1, .int 8, .int 0]) (q' := (6, [some (.ref 1), some (.int x1), some (.int 8), some (.int 0)], [], hC0, 0, 0)) (v := some (.int 1)) (hs' := hC0) (c' := 0) (s' := 0) rfl rfl ?_ ?_
  · refine mEnds.steps 3 (q' := (4, [some (.int x1), some (.int 8), some (.int 0)], [.int 10, .int 0, .int x1], hC0, 0, 0)) rfl ?_
    refine mEnds.call (d := 18) (y' := 105) (as := [.int x1, .int 0, .int 10]) (q' := (7, [some (.int x1), some (.int 8), some (.int 0)], [], hC0, 0, 0)) (v := some (.int 1)) (hs' := hC0) (c' := 0) (s' := 0) rfl rfl ?_ ?_
    · refine mEnds.steps 2 (q' := (2, [some (.int x1), some (.int 0), some (.int 10)], [.int 0, .int x1], hC0, 0, 0)) rfl ?_
      refine mEnds.brF (q' := (5, [some (.int x1), some (.int 0), some (.int 10)], [], hC0, 0, 0)) rfl f0 rfl ?_
      refine mEnds.steps 2 (q' := (7, [some (.int x1), some (.int 0), some (.int 10)], [.int 10, .int x1], hC0, 0, 0)) rfl ?_
      refine mEnds.brF (q' := (10, [some (.int x1), some (.int 0), some (.int 10)], [], hC0, 0, 0)) rfl f1 rfl ?_
      refine mEnds.steps 2 (q' := (15, [some (.int x1), some (.int 0), some (.int 10)], [.int 1], hC0, 0, 0)) rfl ?_
      exact mEnds.ret rfl
    show mEnds [] 19 83 (7, [some (.int x1), some (.int 8), some (.int 0)], [.int 1], hC0, 0, 0) _
    refine mEnds.steps 4 (q' := (14, [some (.int x1), some (.int 8), some (.int 0)], [.int 8, .int 0, .int 8], hC0, 0, 0)) rfl ?_
    refine mEnds.call (d := 18) (y' := 105) (as := [.int 8, .int 0, .int 8]) (q' := (17, [some (.int x1), some (.int 8), some (.int 0)], [], hC0, 0, 0)) (v := some (.int 1)) (hs' := hC0) (c' := 0) (s' := 0) rfl rfl ?_ ?_
    · refine mEnds.steps 8 (q' := (15, [some (.int 8), some (.int 0), some (.int 8)], [.int 1], hC0, 0, 0)) rfl ?_
      exact mEnds.ret rfl
    show mEnds [] 19 83 (17, [some (.int x1), some (.int 8), some (.int 0)], [.int 1], hC0, 0, 0) _
    refine mEnds.steps 4 (q' := (23, [some (.int x1), some (.int 8), some (.int 0)], [.int 1, .int 0, .int 0], hC0, 0, 0)) rfl ?_
    refine mEnds.call (d := 18) (y' := 105) (as := [.int 0, .int 0, .int 1]) (q' := (26, [some (.int x1), some (.int 8), some (.int 0)], [], hC0, 0, 0)) (v := some (.int 1)) (hs' := hC0) (c' := 0) (s' := 0) rfl rfl ?_ ?_
    · refine mEnds.steps 8 (q' := (15, [some (.int 0), some (.int 0), some (.int 1)], [.int 1], hC0, 0, 0)) rfl ?_
      exact mEnds.ret rfl
    show mEnds [] 19 83 (26, [some (.int x1), some (.int 8), some (.int 0)], [.int 1], hC0, 0, 0) _
    refine mEnds.steps 3 (q' := (34, [some (.int x1), some (.int 8), some (.int 0)], [.int 1], hC0, 0, 0)) rfl ?_
    exact mEnds.ret rfl
  show mEnds [] 20 82 (6, [some (.ref 1), some (.int x1), some (.int 8), some (.int 0)], [.int 1], hC0, 0, 0) _
  refine mEnds.steps 1 (q' := (13, [some (.ref 1), some (.int x1), some (.int 8), some (.int 0)], [], hC0, 0, 0)) rfl ?_
  refine mEnds.steps 6 (q' := (23, [some (.ref 1), some (.int x1), some (.int 8), some (.int 0)], [.ref 2, .ref 44], hC0, 0, 0)) rfl ?_
  refine mEnds.call (d := 19) (y' := 7) (as := [.ref 44, .ref 2]) (q' := (26, [some (.ref 1), some (.int x1), some (.int 8), some (.int 0)], [], hC0, 0, 0)) (v := none) (hs' := hC0) (c' := 0) (s' := 0) rfl rfl (mEnds.deep cpM 9) ?_
  show mEnds [] 20 82 (26, [some (.ref 1), some (.int x1), some (.int 8), some (.int 0)], [], hC0, 0, 0) _
  refine mEnds.steps 6 (q' := (33, [some (.ref 1), some (.int x1), some (.int 8), some (.int 0)], [.int 0, .int (-4), .int x1, .int 8, .int 0, .ref 1], hC0, 0, 0)) rfl ?_
  refine mEnds.call (d := 19) (y' := 84) (as := [.ref 1, .int 0, .int 8, .int x1, .int (-4), .int 0]) (q' := (36, [some (.ref 1), some (.int x1), some (.int 8), some (.int 0)], [], hC0, 0, 0)) (v := some (.long 0)) (hs' := hT M) (c' := 0) (s' := 0) rfl rfl hw ?_
  show mEnds [] 20 82 (36, [some (.ref 1), some (.int x1), some (.int 8), some (.int 0)], [.long 0], hT M, 0, 0) _
  refine mEnds.steps 1 (q' := (37, [some (.ref 1), some (.int x1), some (.int 8), some (.int 0)], [.int 8, .long 0], hT M, 0, 0)) rfl ?_
  refine mEnds.call (d := 19) (y' := 86) (as := [.int 8]) (q' := (40, [some (.ref 1), some (.int x1), some (.int 8), some (.int 0)], [.long 0], hT M, 0, 0)) (v := some (.long 100000000)) (hs' := hT M) (c' := 0) (s' := 0) rfl rfl (mEnds.deep (te8 _) 1) ?_
  show mEnds [] 20 82 (40, [some (.ref 1), some (.int x1), some (.int 8), some (.int 0)], [.long 100000000, .long 0], hT M, 0, 0) _
  refine mEnds.steps 1 (q' := (41, [some (.ref 1), some (.int x1), some (.int 8), some (.int 0)], [.int 0, .long 100000000, .long 0], hT M, 0, 0)) rfl ?_
  refine mEnds.call (d := 19) (y' := 87) (as := [.long 0, .long 100000000, .int 0]) (q' := (44, [some (.ref 1), some (.int x1), some (.int 8), some (.int 0)], [], hT M, 0, 0)) (v := some (.long 0)) (hs' := hT M) (c' := 0) (s' := 0) rfl rfl (mEnds.deep (of8_0 _) 1) ?_
  exact mEnds.ret rfl
set_option maxRecDepth 100000 in
theorem m25_FFFFFFv8v0 (x1 : Int32) (f0 : decide (x1 < 0) = false) (f1 : decide (10 < x1) = false) : ∃ hs', mEnds [] 20 167 (mentry 167 [.ref 1, .int x1, .int 8, .int 0] hM0) (some (.long 0), hs', 0, 0) := by
  refine ⟨(hB 8), ?_⟩
  refine mEnds.steps 4 (q' := (6, [some (.ref 1), some (.int x1), some (.int 8), some (.int 0)], [.long 10, .long 0, .long x1.toInt64], hM0, 0, 0)) rfl ?_
  refine mEnds.call (d := 19) (y' := 111) (as := [.long x1.toInt64, .long 0, .long 10]) (q' := (9, [some (.ref 1), some (.int x1), some (.int 8), some (.int 0)], [], hM0, 0, 0)) (v := some (.int 1)) (hs' := hM0) (c' := 0) (s' := 0) rfl rfl ?_ ?_
  · refine mEnds.steps 3 (q' := (3, [some (.long x1.toInt64), none, some (.long 0), none, some (.long 10), none], [.int (lg_cmp x1.toInt64 0)], hM0, 0, 0)) rfl ?_
    refine mEnds.brF (q' := (6, [some (.long x1.toInt64), none, some (.long 0), none, some (.long 10), none], [], hM0, 0, 0)) rfl (lgc_lt (c := 0) (by decide) f0) rfl ?_
    refine mEnds.steps 3 (q' := (10, [some (.long x1.toInt64), none, some (.long 0), none, some (.long 10), none], [.int (lg_cmp x1.toInt64 10)], hM0, 0, 0)) rfl ?_
    refine mEnds.brF (q' := (13, [some (.long x1.toInt64), none, some (.long 0), none, some (.long 10), none], [], hM0, 0, 0)) rfl (lgc_gt (c := 10) (by decide) f1) rfl ?_
    refine mEnds.steps 2 (q' := (18, [some (.long x1.toInt64), none, some (.long 0), none, some (.long 10), none], [.int 1], hM0, 0, 0)) rfl ?_
    exact mEnds.ret rfl
  show mEnds [] 20 167 (9, [some (.ref 1), some (.int x1), some (.int 8), some (.int 0)], [.int 1], hM0, 0, 0) _
  refine mEnds.steps 5 (q' := (18, [some (.ref 1), some (.int x1), some (.int 8), some (.int 0)], [.long 8, .long 0, .long 8], hM0, 0, 0)) rfl ?_
  refine mEnds.call (d := 19) (y' := 111) (as := [.long 8, .long 0, .long 8]) (q' := (21, [some (.ref 1), some (.int x1), some (.int 8), some (.int 0)], [], hM0, 0, 0)) (v := some (.int 1)) (hs' := hM0) (c' := 0) (s' := 0) rfl rfl ?_ ?_
  · refine mEnds.steps 10 (q' := (18, [some (.long 8), none, some (.long 0), none, some (.long 8), none], [.int 1], hM0, 0, 0)) rfl ?_
    exact mEnds.ret rfl
  show mEnds [] 20 167 (21, [some (.ref 1), some (.int x1), some (.int 8), some (.int 0)], [.int 1], hM0, 0, 0) _
  refine mEnds.steps 5 (q' := (28, [some (.ref 1), some (.int x1), some (.int 8), some (.int 0)], [.long 1, .long 0, .long 0], hM0, 0, 0)) rfl ?_
  refine mEnds.call (d := 19) (y' := 111) (as := [.long 0, .long 0, .long 1]) (q' := (31, [some (.ref 1), some (.int x1), some (.int 8), some (.int 0)], [], hM0, 0, 0)) (v := some (.int 1)) (hs' := hM0) (c' := 0) (s' := 0) rfl rfl ?_ ?_
  · refine mEnds.steps 10 (q' := (18, [some (.long 0), none, some (.long 0), none, some (.long 1), none], [.int 1], hM0, 0, 0)) rfl ?_
    exact mEnds.ret rfl
  show mEnds [] 20 167 (31, [some (.ref 1), some (.int x1), some (.int 8), some (.int 0)], [.int 1], hM0, 0, 0) _
  refine mEnds.steps 1 (q' := (34, [some (.ref 1), some (.int x1), some (.int 8), some (.int 0)], [], hM0, 0, 0)) rfl ?_
  refine mEnds.steps 6 (q' := (41, [some (.ref 1), some (.int x1), some (.int 8), some (.int 0)], [.int 0, .int 0, .int 8, .int (-4), .int x1, .ref 1], hM0, 0, 0)) rfl ?_
  refine mEnds.call (d := 19) (y' := 165) (as := [.ref 1, .int x1, .int (-4), .int 8, .int 0, .int 0]) (q' := (44, [some (.ref 1), some (.int x1), some (.int 8), some (.int 0)], [], hM0, 0, 0)) (v := some (.long 0)) (hs' := hB 8) (c' := 0) (s' := 0) rfl rfl (bf8_0 x1) ?_
  show mEnds [] 20 167 (44, [some (.ref 1), some (.int x1), some (.int 8), some (.int 0)], [.long 0], hB 8, 0, 0) _
  refine mEnds.steps 1 (q' := (50, [some (.ref 1), some (.int x1), some (.int 8), some (.int 0)], [.long 0], hB 8, 0, 0)) rfl ?_
  exact mEnds.ret rfl
set_option maxRecDepth 100000 in
theorem c25_FFFFFFv8v1 (x1 : Int32) (f0 : decide (x1 < 0) = false) (f1 : decide (10 < x1) = false) : ∃ hs', mEnds [] 20 82 (mentry 82 [.ref 1, .int x1, .int 8, .int 1] hC0) (some (.long 1), hs', 0, 0) := by
  obtain ⟨M, -, -, hw⟩ := wg0 (N := 8) (m := 0) x1 (by decide) (by decide) (by decide) (by decide)
  rw [hT_0] at hw
  refine ⟨(hT M), ?_⟩
  refine mEnds.steps 3 (q' := (3, [some (.ref 1), some (.int x1), some (.int 8), some (.int 1)], [.int 1, .int 8, .int x1], hC0, 0, 0)) rfl ?_
  refine mEnds.call (d := 19) (y' := 83) (as := [.int x1, .int 8, .int 1]) (q' := (6, [some (.ref 1), some (.int x1), some (.int 8), some (.int 1)], [], hC0, 0, 0)) (v := some (.int 1)) (hs' := hC0) (c' := 0) (s' := 0) rfl rfl ?_ ?_
  · refine mEnds.steps 3 (q' := (4, [some (.int x1), some (.int 8), some (.int 1)], [.int 10, .int 0, .int x1], hC0, 0, 0)) rfl ?_
    refine mEnds.call (d := 18) (y' := 105) (as := [.int x1, .int 0, .int 10]) (q' := (7, [some (.int x1), some (.int 8), some (.int 1)], [], hC0, 0, 0)) (v := some (.int 1)) (hs' := hC0) (c' := 0) (s' := 0) rfl rfl ?_ ?_
    · refine mEnds.steps 2 (q' := (2, [some (.int x1), some (.int 0), some (.int 10)], [.int 0, .int x1], hC0, 0, 0)) rfl ?_
      refine mEnds.brF (q' := (5, [some (.int x1), some (.int 0), some (.int 10)], [], hC0, 0, 0)) rfl f0 rfl ?_
      refine mEnds.steps 2 (q' := (7, [some (.int x1), some (.int 0), some (.int 10)], [.int 10, .int x1], hC0, 0, 0)) rfl ?_
      refine mEnds.brF (q' := (10, [some (.int x1), some (.int 0), some (.int 10)], [], hC0, 0, 0)) rfl f1 rfl ?_
      refine mEnds.steps 2 (q' := (15, [some (.int x1), some (.int 0), some (.int 10)], [.int 1], hC0, 0, 0)) rfl ?_
      exact mEnds.ret rfl
    show mEnds [] 19 83 (7, [some (.int x1), some (.int 8), some (.int 1)], [.int 1], hC0, 0, 0) _
    refine mEnds.steps 4 (q' := (14, [some (.int x1), some (.int 8), some (.int 1)], [.int 8, .int 0, .int 8], hC0, 0, 0)) rfl ?_
    refine mEnds.call (d := 18) (y' := 105) (as := [.int 8, .int 0, .int 8]) (q' := (17, [some (.int x1), some (.int 8), some (.int 1)], [], hC0, 0, 0)) (v := some (.int 1)) (hs' := hC0) (c' := 0) (s' := 0) rfl rfl ?_ ?_
    · refine mEnds.steps 8 (q' := (15, [some (.int 8), some (.int 0), some (.int 8)], [.int 1], hC0, 0, 0)) rfl ?_
      exact mEnds.ret rfl
    show mEnds [] 19 83 (17, [some (.int x1), some (.int 8), some (.int 1)], [.int 1], hC0, 0, 0) _
    refine mEnds.steps 4 (q' := (23, [some (.int x1), some (.int 8), some (.int 1)], [.int 1, .int 0, .int 1], hC0, 0, 0)) rfl ?_
    refine mEnds.call (d := 18) (y' := 105) (as := [.int 1, .int 0, .int 1]) (q' := (26, [some (.int x1), some (.int 8), some (.int 1)], [], hC0, 0, 0)) (v := some (.int 1)) (hs' := hC0) (c' := 0) (s' := 0) rfl rfl ?_ ?_
    · refine mEnds.steps 8 (q' := (15, [some (.int 1), some (.int 0), some (.int 1)], [.int 1], hC0, 0, 0)) rfl ?_
      exact mEnds.ret rfl
    show mEnds [] 19 83 (26, [some (.int x1), some (.int 8), some (.int 1)], [.int 1], hC0, 0, 0) _
    refine mEnds.steps 3 (q' := (34, [some (.int x1), some (.int 8), some (.int 1)], [.int 1], hC0, 0, 0)) rfl ?_
    exact mEnds.ret rfl
  show mEnds [] 20 82 (6, [some (.ref 1), some (.int x1), some (.int 8), some (.int 1)], [.int 1], hC0, 0, 0) _
  refine mEnds.steps 1 (q' := (13, [some (.ref 1), some (.int x1), some (.int 8), some (.int 1)], [], hC0, 0, 0)) rfl ?_
  refine mEnds.steps 6 (q' := (23, [some (.ref 1), some (.int x1), some (.int 8), some (.int 1)], [.ref 2, .ref 44], hC0, 0, 0)) rfl ?_
  refine mEnds.call (d := 19) (y' := 7) (as := [.ref 44, .ref 2]) (q' := (26, [some (.ref 1), some (.int x1), some (.int 8), some (.int 1)], [], hC0, 0, 0)) (v := none) (hs' := hC0) (c' := 0) (s' := 0) rfl rfl (mEnds.deep cpM 9) ?_
  show mEnds [] 20 82 (26, [some (.ref 1), some (.int x1), some (.int 8), some (.int 1)], [], hC0, 0, 0) _
  refine mEnds.steps 6 (q' := (33, [some (.ref 1), some (.int x1), some (.int 8), some (.int 1)], [.int 0, .int (-4), .int x1, .int 8, .int 0, .ref 1], hC0, 0, 0)) rfl ?_
  refine mEnds.call (d := 19) (y' := 84) (as := [.ref 1, .int 0, .int 8, .int x1, .int (-4), .int 0]) (q' := (36, [some (.ref 1), some (.int x1), some (.int 8), some (.int 1)], [], hC0, 0, 0)) (v := some (.long 0)) (hs' := hT M) (c' := 0) (s' := 0) rfl rfl hw ?_
  show mEnds [] 20 82 (36, [some (.ref 1), some (.int x1), some (.int 8), some (.int 1)], [.long 0], hT M, 0, 0) _
  refine mEnds.steps 1 (q' := (37, [some (.ref 1), some (.int x1), some (.int 8), some (.int 1)], [.int 8, .long 0], hT M, 0, 0)) rfl ?_
  refine mEnds.call (d := 19) (y' := 86) (as := [.int 8]) (q' := (40, [some (.ref 1), some (.int x1), some (.int 8), some (.int 1)], [.long 0], hT M, 0, 0)) (v := some (.long 100000000)) (hs' := hT M) (c' := 0) (s' := 0) rfl rfl (mEnds.deep (te8 _) 1) ?_
  show mEnds [] 20 82 (40, [some (.ref 1), some (.int x1), some (.int 8), some (.int 1)], [.long 100000000, .long 0], hT M, 0, 0) _
  refine mEnds.steps 1 (q' := (41, [some (.ref 1), some (.int x1), some (.int 8), some (.int 1)], [.int 1, .long 100000000, .long 0], hT M, 0, 0)) rfl ?_
  refine mEnds.call (d := 19) (y' := 87) (as := [.long 0, .long 100000000, .int 1]) (q' := (44, [some (.ref 1), some (.int x1), some (.int 8), some (.int 1)], [], hT M, 0, 0)) (v := some (.long 1)) (hs' := hT M) (c' := 0) (s' := 0) rfl rfl (mEnds.deep (of8_1 _) 1) ?_
  exact mEnds.ret rfl
set_option maxRecDepth 100000 in
theorem m25_FFFFFFv8v1 (x1 : Int32) (f0 : decide (x1 < 0) = false) (f1 : decide (10 < x1) = false) : ∃ hs', mEnds [] 20 167 (mentry 167 [.ref 1, .int x1, .int 8, .int 1] hM0) (some (.long 1), hs', 0, 0) := by
  refine ⟨(hB 8), ?_⟩
  refine mEnds.steps 4 (q' := (6, [some (.ref 1), some (.int x1), some (.int 8), some (.int 1)], [.long 10, .long 0, .long x1.toInt64], hM0, 0, 0)) rfl ?_
  refine mEnds.call (d := 19) (y' := 111) (as := [.long x1.toInt64, .long 0, .long 10]) (q' := (9, [some (.ref 1), some (.int x1), some (.int 8), some (.int 1)], [], hM0, 0, 0)) (v := some (.int 1)) (hs' := hM0) (c' := 0) (s' := 0) rfl rfl ?_ ?_
  · refine mEnds.steps 3 (q' := (3, [some (.long x1.toInt64), none, some (.long 0), none, some (.long 10), none], [.int (lg_cmp x1.toInt64 0)], hM0, 0, 0)) rfl ?_
    refine mEnds.brF (q' := (6, [some (.long x1.toInt64), none, some (.long 0), none, some (.long 10), none], [], hM0, 0, 0)) rfl (lgc_lt (c := 0) (by decide) f0) rfl ?_
    refine mEnds.steps 3 (q' := (10, [some (.long x1.toInt64), none, some (.long 0), none, some (.long 10), none], [.int (lg_cmp x1.toInt64 10)], hM0, 0, 0)) rfl ?_
    refine mEnds.brF (q' := (13, [some (.long x1.toInt64), none, some (.long 0), none, some (.long 10), none], [], hM0, 0, 0)) rfl (lgc_gt (c := 10) (by decide) f1) rfl ?_
    refine mEnds.steps 2 (q' := (18, [some (.long x1.toInt64), none, some (.long 0), none, some (.long 10), none], [.int 1], hM0, 0, 0)) rfl ?_
    exact mEnds.ret rfl
  show mEnds [] 20 167 (9, [some (.ref 1), some (.int x1), some (.int 8), some (.int 1)], [.int 1], hM0, 0, 0) _
  refine mEnds.steps 5 (q' := (18, [some (.ref 1), some (.int x1), some (.int 8), some (.int 1)], [.long 8, .long 0, .long 8], hM0, 0, 0)) rfl ?_
  refine mEnds.call (d := 19) (y' := 111) (as := [.long 8, .long 0, .long 8]) (q' := (21, [some (.ref 1), some (.int x1), some (.int 8), some (.int 1)], [], hM0, 0, 0)) (v := some (.int 1)) (hs' := hM0) (c' := 0) (s' := 0) rfl rfl ?_ ?_
  · refine mEnds.steps 10 (q' := (18, [some (.long 8), none, some (.long 0), none, some (.long 8), none], [.int 1], hM0, 0, 0)) rfl ?_
    exact mEnds.ret rfl
  show mEnds [] 20 167 (21, [some (.ref 1), some (.int x1), some (.int 8), some (.int 1)], [.int 1], hM0, 0, 0) _
  refine mEnds.steps 5 (q' := (28, [some (.ref 1), some (.int x1), some (.int 8), some (.int 1)], [.long 1, .long 0, .long 1], hM0, 0, 0)) rfl ?_
  refine mEnds.call (d := 19) (y' := 111) (as := [.long 1, .long 0, .long 1]) (q' := (31, [some (.ref 1), some (.int x1), some (.int 8), some (.int 1)], [], hM0, 0, 0)) (v := some (.int 1)) (hs' := hM0) (c' := 0) (s' := 0) rfl rfl ?_ ?_
  · refine mEnds.steps 10 (q' := (18, [some (.long 1), none, some (.long 0), none, some (.long 1), none], [.int 1], hM0, 0, 0)) rfl ?_
    exact mEnds.ret rfl
  show mEnds [] 20 167 (31, [some (.ref 1), some (.int x1), some (.int 8), some (.int 1)], [.int 1], hM0, 0, 0) _
  refine mEnds.steps 1 (q' := (34, [some (.ref 1), some (.int x1), some (.int 8), some (.int 1)], [], hM0, 0, 0)) rfl ?_
  refine mEnds.steps 6 (q' := (41, [some (.ref 1), some (.int x1), some (.int 8), some (.int 1)], [.int 1, .int 0, .int 8, .int (-4), .int x1, .ref 1], hM0, 0, 0)) rfl ?_
  refine mEnds.call (d := 19) (y' := 165) (as := [.ref 1, .int x1, .int (-4), .int 8, .int 0, .int 1]) (q' := (44, [some (.ref 1), some (.int x1), some (.int 8), some (.int 1)], [], hM0, 0, 0)) (v := some (.long 1)) (hs' := hB 8) (c' := 0) (s' := 0) rfl rfl (bf8_1 x1) ?_
  show mEnds [] 20 167 (44, [some (.ref 1), some (.int x1), some (.int 8), some (.int 1)], [.long 1], hB 8, 0, 0) _
  refine mEnds.steps 1 (q' := (50, [some (.ref 1), some (.int x1), some (.int 8), some (.int 1)], [.long 1], hB 8, 0, 0)) rfl ?_
  exact mEnds.ret rfl
theorem ok_25 (x1 x2 x3 x4 x5 : Int32) : callOK_25 x1 x2 x3 x4 x5 := by
  cases f0 : decide (x1 < 0) with
  | true =>
    obtain ⟨h1, a1⟩ := c25_T x1 x2 x3 f0
    obtain ⟨h2, a2⟩ := m25_T x1 x2 x3 f0
    exact ⟨_, h1, h2, a1, a2⟩
  | false =>
    cases f1 : decide (10 < x1) with
    | true =>
      obtain ⟨h1, a1⟩ := c25_FT x1 x2 x3 f0 f1
      obtain ⟨h2, a2⟩ := m25_FT x1 x2 x3 f0 f1
      exact ⟨_, h1, h2, a1, a2⟩
    | false =>
      cases f2 : decide (x2 < 0) with
      | true =>
        obtain ⟨h1, a1⟩ := c25_FFT x1 x2 x3 f0 f1 f2
        obtain ⟨h2, a2⟩ := m25_FFT x1 x2 x3 f0 f1 f2
        exact ⟨_, h1, h2, a1, a2⟩
      | false =>
        cases f3 : decide (8 < x2) with
        | true =>
          obtain ⟨h1, a1⟩ := c25_FFFT x1 x2 x3 f0 f1 f2 f3
          obtain ⟨h2, a2⟩ := m25_FFFT x1 x2 x3 f0 f1 f2 f3
          exact ⟨_, h1, h2, a1, a2⟩
        | false =>
          cases f4 : decide (x3 < 0) with
          | true =>
            obtain ⟨h1, a1⟩ := c25_FFFFT x1 x2 x3 f0 f1 f2 f3 f4
            obtain ⟨h2, a2⟩ := m25_FFFFT x1 x2 x3 f0 f1 f2 f3 f4
            exact ⟨_, h1, h2, a1, a2⟩
          | false =>
            cases f5 : decide (1 < x3) with
            | true =>
              obtain ⟨h1, a1⟩ := c25_FFFFFT x1 x2 x3 f0 f1 f2 f3 f4 f5
              obtain ⟨h2, a2⟩ := m25_FFFFFT x1 x2 x3 f0 f1 f2 f3 f4 f5
              exact ⟨_, h1, h2, a1, a2⟩
            | false =>
              obtain ⟨k6, hk6, ek6⟩ := i32_rng (n := 9) f2 f3 (by decide)
              clear f2 f3
              match k6, hk6, ek6 with
              | 0, _, e =>
                obtain rfl := i32_at (c := 0) e (by decide)
                obtain ⟨k6, hk6, ek6⟩ := i32_rng (n := 2) f4 f5 (by decide)
                clear f4 f5
                match k6, hk6, ek6 with
                | 0, _, e =>
                  obtain rfl := i32_at (c := 0) e (by decide)
                  obtain ⟨h1, a1⟩ := c25_FFFFFFv0v0 x1 f0 f1
                  obtain ⟨h2, a2⟩ := m25_FFFFFFv0v0 x1 f0 f1
                  exact ⟨_, h1, h2, a1, a2⟩
                | 1, _, e =>
                  obtain rfl := i32_at (c := 1) e (by decide)
                  obtain ⟨h1, a1⟩ := c25_FFFFFFv0v1 x1 f0 f1
                  obtain ⟨h2, a2⟩ := m25_FFFFFFv0v1 x1 f0 f1
                  exact ⟨_, h1, h2, a1, a2⟩
                | k + 2, h, _ => exact absurd h (by omega)
              | 1, _, e =>
                obtain rfl := i32_at (c := 1) e (by decide)
                obtain ⟨k6, hk6, ek6⟩ := i32_rng (n := 2) f4 f5 (by decide)
                clear f4 f5
                match k6, hk6, ek6 with
                | 0, _, e =>
                  obtain rfl := i32_at (c := 0) e (by decide)
                  obtain ⟨h1, a1⟩ := c25_FFFFFFv1v0 x1 f0 f1
                  obtain ⟨h2, a2⟩ := m25_FFFFFFv1v0 x1 f0 f1
                  exact ⟨_, h1, h2, a1, a2⟩
                | 1, _, e =>
                  obtain rfl := i32_at (c := 1) e (by decide)
                  obtain ⟨h1, a1⟩ := c25_FFFFFFv1v1 x1 f0 f1
                  obtain ⟨h2, a2⟩ := m25_FFFFFFv1v1 x1 f0 f1
                  exact ⟨_, h1, h2, a1, a2⟩
                | k + 2, h, _ => exact absurd h (by omega)
              | 2, _, e =>
                obtain rfl := i32_at (c := 2) e (by decide)
                obtain ⟨k6, hk6, ek6⟩ := i32_rng (n := 2) f4 f5 (by decide)
                clear f4 f5
                match k6, hk6, ek6 with
                | 0, _, e =>
                  obtain rfl := i32_at (c := 0) e (by decide)
                  obtain ⟨h1, a1⟩ := c25_FFFFFFv2v0 x1 f0 f1
                  obtain ⟨h2, a2⟩ := m25_FFFFFFv2v0 x1 f0 f1
                  exact ⟨_, h1, h2, a1, a2⟩
                | 1, _, e =>
                  obtain rfl := i32_at (c := 1) e (by decide)
                  obtain ⟨h1, a1⟩ := c25_FFFFFFv2v1 x1 f0 f1
                  obtain ⟨h2, a2⟩ := m25_FFFFFFv2v1 x1 f0 f1
                  exact ⟨_, h1, h2, a1, a2⟩
                | k + 2, h, _ => exact absurd h (by omega)
              | 3, _, e =>
                obtain rfl := i32_at (c := 3) e (by decide)
                obtain ⟨k6, hk6, ek6⟩ := i32_rng (n := 2) f4 f5 (by decide)
                clear f4 f5
                match k6, hk6, ek6 with
                | 0, _, e =>
                  obtain rfl := i32_at (c := 0) e (by decide)
                  obtain ⟨h1, a1⟩ := c25_FFFFFFv3v0 x1 f0 f1
                  obtain ⟨h2, a2⟩ := m25_FFFFFFv3v0 x1 f0 f1
                  exact ⟨_, h1, h2, a1, a2⟩
                | 1, _, e =>
                  obtain rfl := i32_at (c := 1) e (by decide)
                  obtain ⟨h1, a1⟩ := c25_FFFFFFv3v1 x1 f0 f1
                  obtain ⟨h2, a2⟩ := m25_FFFFFFv3v1 x1 f0 f1
                  exact ⟨_, h1, h2, a1, a2⟩
                | k + 2, h, _ => exact absurd h (by omega)
              | 4, _, e =>
                obtain rfl := i32_at (c := 4) e (by decide)
                obtain ⟨k6, hk6, ek6⟩ := i32_rng (n := 2) f4 f5 (by decide)
                clear f4 f5
                match k6, hk6, ek6 with
                | 0, _, e =>
                  obtain rfl := i32_at (c := 0) e (by decide)
                  obtain ⟨h1, a1⟩ := c25_FFFFFFv4v0 x1 f0 f1
                  obtain ⟨h2, a2⟩ := m25_FFFFFFv4v0 x1 f0 f1
                  exact ⟨_, h1, h2, a1, a2⟩
                | 1, _, e =>
                  obtain rfl := i32_at (c := 1) e (by decide)
                  obtain ⟨h1, a1⟩ := c25_FFFFFFv4v1 x1 f0 f1
                  obtain ⟨h2, a2⟩ := m25_FFFFFFv4v1 x1 f0 f1
                  exact ⟨_, h1, h2, a1, a2⟩
                | k + 2, h, _ => exact absurd h (by omega)
              | 5, _, e =>
                obtain rfl := i32_at (c := 5) e (by decide)
                obtain ⟨k6, hk6, ek6⟩ := i32_rng (n := 2) f4 f5 (by decide)
                clear f4 f5
                match k6, hk6, ek6 with
                | 0, _, e =>
                  obtain rfl := i32_at (c := 0) e (by decide)
                  obtain ⟨h1, a1⟩ := c25_FFFFFFv5v0 x1 f0 f1
                  obtain ⟨h2, a2⟩ := m25_FFFFFFv5v0 x1 f0 f1
                  exact ⟨_, h1, h2, a1, a2⟩
                | 1, _, e =>
                  obtain rfl := i32_at (c := 1) e (by decide)
                  obtain ⟨h1, a1⟩ := c25_FFFFFFv5v1 x1 f0 f1
                  obtain ⟨h2, a2⟩ := m25_FFFFFFv5v1 x1 f0 f1
                  exact ⟨_, h1, h2, a1, a2⟩
                | k + 2, h, _ => exact absurd h (by omega)
              | 6, _, e =>
                obtain rfl := i32_at (c := 6) e (by decide)
                obtain ⟨k6, hk6, ek6⟩ := i32_rng (n := 2) f4 f5 (by decide)
                clear f4 f5
                match k6, hk6, ek6 with
                | 0, _, e =>
                  obtain rfl := i32_at (c := 0) e (by decide)
                  obtain ⟨h1, a1⟩ := c25_FFFFFFv6v0 x1 f0 f1
                  obtain ⟨h2, a2⟩ := m25_FFFFFFv6v0 x1 f0 f1
                  exact ⟨_, h1, h2, a1, a2⟩
                | 1, _, e =>
                  obtain rfl := i32_at (c := 1) e (by decide)
                  obtain ⟨h1, a1⟩ := c25_FFFFFFv6v1 x1 f0 f1
                  obtain ⟨h2, a2⟩ := m25_FFFFFFv6v1 x1 f0 f1
                  exact ⟨_, h1, h2, a1, a2⟩
                | k + 2, h, _ => exact absurd h (by omega)
              | 7, _, e =>
                obtain rfl := i32_at (c := 7) e (by decide)
                obtain ⟨k6, hk6, ek6⟩ := i32_rng (n := 2) f4 f5 (by decide)
                clear f4 f5
                match k6, hk6, ek6 with
                | 0, _, e =>
                  obtain rfl := i32_at (c := 0) e (by decide)
                  obtain ⟨h1, a1⟩ := c25_FFFFFFv7v0 x1 f0 f1
                  obtain ⟨h2, a2⟩ := m25_FFFFFFv7v0 x1 f0 f1
                  exact ⟨_, h1, h2, a1, a2⟩
                | 1, _, e =>
                  obtain rfl := i32_at (c := 1) e (by decide)
                  obtain ⟨h1, a1⟩ := c25_FFFFFFv7v1 x1 f0 f1
                  obtain ⟨h2, a2⟩ := m25_FFFFFFv7v1 x1 f0 f1
                  exact ⟨_, h1, h2, a1, a2⟩
                | k + 2, h, _ => exact absurd h (by omega)
              | 8, _, e =>
                obtain rfl := i32_at (c := 8) e (by decide)
                obtain ⟨k6, hk6, ek6⟩ := i32_rng (n := 2) f4 f5 (by decide)
                clear f4 f5
                match k6, hk6, ek6 with
                | 0, _, e =>
                  obtain rfl := i32_at (c := 0) e (by decide)
                  obtain ⟨h1, a1⟩ := c25_FFFFFFv8v0 x1 f0 f1
                  obtain ⟨h2, a2⟩ := m25_FFFFFFv8v0 x1 f0 f1
                  exact ⟨_, h1, h2, a1, a2⟩
                | 1, _, e =>
                  obtain rfl := i32_at (c := 1) e (by decide)
                  obtain ⟨h1, a1⟩ := c25_FFFFFFv8v1 x1 f0 f1
                  obtain ⟨h2, a2⟩ := m25_FFFFFFv8v1 x1 f0 f1
                  exact ⟨_, h1, h2, a1, a2⟩
                | k + 2, h, _ => exact absurd h (by omega)
              | k + 9, h, _ => exact absurd h (by omega)
