/-- the law up to its loop -/
theorem law_mid {sc : List Int32} {NC NS : Nat} {H H2 : mH} (hl : H.length = 141) (nm : mrun [] 300 10 110 (mentry 110 [.ref 141] (H ++ [.inr (5, mnew 5)])) = some (none, H2, 12, 2015)) (k : mFin sc 31 NC NS (18, lawL 0, [], H2, 144, 3205)) : mFin sc 31 NC NS (7, [some (.ref 0), none, none, none], [.ref 10], H, 131, 1161) := by
  refine mFin.steps 3 (q' := (12, [some (.ref 0), some (.ref 10), none, none], [.ref H.length, .ref H.length], H ++ [.inr (5, mnew 5)], 132, 1190)) rfl ?_
  rw [hl]
  refine mFin.call (d := 30) (y' := 110) (as := [.ref 141]) (q' := (15, [some (.ref 0), some (.ref 10), none, none], [.ref 141], H ++ [.inr (5, mnew 5)], 132, 1190)) rfl rfl (mEnds.sc sc (by decide) (mEnds.deep ⟨300, nm⟩ 20)) ?_
  show mFin sc 31 NC NS (15, [some (.ref 0), some (.ref 10), none, none], [.ref 141], H2, 144, 3205)
  exact mFin.steps 3 (q' := (18, lawL 0, [], H2, 144, 3205)) rfl k
theorem law_start {sc : List Int32} {NC NS : Nat} (k : mFin sc 31 NC NS (18, lawL 0, [], hp shC s0 ++ hMt, 144, 3205)) : mFin sc 31 NC NS (mentry 184 [.ref 0] (List.replicate 10 (.inl (0, [])))) := by
  refine mFin.steps 2 (q' := (4, [some (.ref 0), none, none, none], [.ref 10, .ref 10], hD ++ [.inr (4, mnew 4)], 1, 8)) rfl ?_
  have k2 := law_mid (hp_len shC s0) new_M k
  refine mFin.call (d := 30) (y' := 54) (as := [.ref 10]) (q' := (7, [some (.ref 0), none, none, none], [.ref 10], hD ++ [.inr (4, mnew 4)], 1, 8)) rfl rfl (mEnds.sc sc (by decide) (mEnds.deep ⟨1000, new_C⟩ 20)) ?_
  exact k2
theorem law_run {R : sg → sg → Prop} (hOK : stepsOK R) (h0 : R s0 t0) (sc : List Int32) (hL : sc.length ≤ 3072) : mFin sc 31 144 3205 (mentry 184 [.ref 0] (List.replicate 10 (.inl (0, [])))) :=
  law_start (law_loop hOK (by omega) 3072 0 s0 t0 _ (by omega) (by decide) h0 LR0)
