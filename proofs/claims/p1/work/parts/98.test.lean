theorem zf1 (sc : List Int32) (c : Int32) (h0 : ¬ c < 0) (h1 : ¬ 127 < c) : ∃ hs', mEnds sc 5 55 (mentry 55 [.ref 1, .int c] hC0) (some (.int 1), hs', 0, 0) := by
  refine ⟨_, ?_⟩
  refine mEnds.steps 3 (q' := (4, [some (.ref 1), some (.int c)], [.int 127, .int 0, .int c], hC0, 0, 0)) rfl ?_
  sorry
