theorem zt1 (a b c : Int32) (hs : mH) : msteps 2 105 (0, [some (.int a), some (.int b), some (.int c)], [], hs, 0, 0) = some (2, [some (.int a), some (.int b), some (.int c)], [.int b, .int a], hs, 0, 0) := rfl
theorem zt2 (a b c : Int32) (hs : mH) : msteps 3 105 (0, [some (.int a), some (.int b), some (.int c)], [], hs, 0, 0) = if a < b then some (14, [some (.int a), some (.int b), some (.int c)], [], hs, 0, 0) else some (5, [some (.int a), some (.int b), some (.int c)], [], hs, 0, 0) := by
  by_cases h : a < b
  · rw [if_pos h]
    simp [msteps, mstep, mexec, mfetch, mcode, mc_105, tI, mtk, h, mjp, mgo, lI, mld, mmon]
    rfl
  · rw [if_neg h]
    simp [msteps, mstep, mexec, mfetch, mcode, mc_105, tI, mtk, h, mjp, mgo, lI, mld, mmon]
