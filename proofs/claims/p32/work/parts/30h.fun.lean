def C_kinds_31 (x1 : Int32) : Nat → Int32 → Int32 → sg → Option (Int32 × sg)
  | 0, _, _, _ => none
  | fu + 1, x2, x3, s =>
  if nI 3 < x3 then
    some (x2, s)
  else
    (C_copyOfNow s).bind fun s1 =>
    (midx x1 6).bind fun j1 =>
    (some (up s1 57 j1 x3)).bind fun s2 =>
    (F_holdIn 53 s2).bind fun v2 =>
    if v2.1 = 0 then
      C_kinds_31 x1 fu x2 (x3 + (nI 1)) v2.2
    else
      C_kinds_31 x1 fu (x2 ||| ((nI 1) <<< (x3 &&& 31))) (x3 + (nI 1)) v2.2
set_option maxRecDepth 100000 in
theorem ok_C_kinds_31 {x1 : Int32} : ∀ (fu : Nat) (x2 : Int32) (x3 : Int32) (s : sg) (rv : (Int32 × sg)), C_kinds_31 x1 fu x2 x3 s = some rv → mEnds [] 5 91 (31, [some (.ref 10), some (.int x1), some (.int x2), some (.int x3), none], [], hp shC s, 0, 0) (some (.int rv.1), hp shC rv.2, 0, 0)
  | 0, _, _, _, _, hf => by cases hf
  | fu + 1, x2, x3, s, rv, hf => by
    rw [C_kinds_31] at hf
    refine mEnds.stp 2 (pc' := 33) (l' := [some (.ref 10), some (.int x1), some (.int x2), some (.int x3), none]) (st' := [.int (nI 3), .int x3]) (fun _ => rfl) ?_
    by_cases hc1 : nI 3 < x3
    · rw [if_pos hc1] at hf
      refine t_cT (t := 74) (rfl : mfetch 91 33 = some (33, .if_icmp .gt 41, 3, 0, 0, 0)) rfl (k_gt hc1) ?_
      refine mEnds.stp 1 (pc' := 75) (l' := [some (.ref 10), some (.int x1), some (.int x2), some (.int x3), none]) (st' := [.int x2]) (fun _ => rfl) ?_
      exact mEnds.rti (Option.some.inj hf) (fun _ => rfl)
    · rw [if_neg hc1] at hf
      refine t_cF (rfl : mfetch 91 33 = some (33, .if_icmp .gt 41, 3, 0, 0, 0)) (k_gt' hc1) ?_
      refine mEnds.stp 1 (pc' := 37) (l' := [some (.ref 10), some (.int x1), some (.int x2), some (.int x3), none]) (st' := [.ref 10]) (fun _ => rfl) ?_
      obtain ⟨s1, hs1, hf⟩ := ob hf
      refine t_cv (as := []) (st := []) (rfl : mfetch 91 37 = some (37, .invokevirtual 167, 3, 109, 0, 0)) rfl rfl rfl rfl rfl ((ok_C_copyOfNow hs1).deep 3) ?_
      refine mEnds.stp 2 (pc' := 44) (l' := [some (.ref 10), some (.int x1), some (.int x2), some (.int x3), some (.ref 53)]) (st' := [.ref 53]) (fun _ => rfl) ?_
      refine t_gr (rfl : mfetch 91 44 = some (44, .getfield 128, 3, 1, 8, 0)) rfl rfl ?_
      refine mEnds.stp 2 (pc' := 49) (l' := [some (.ref 10), some (.int x1), some (.int x2), some (.int x3), some (.ref 53)]) (st' := [.int x3, .int x1, .ref 57]) (fun _ => rfl) ?_
      obtain ⟨j1, hj1, hf⟩ := ob hf
      obtain ⟨s2, hs2, hf⟩ := ob hf
      refine t_is (rfl : mfetch 91 49 = some (49, .iastore, 1, 0, 0, 0)) rfl rfl hj1 hs2 ?_
      refine mEnds.stp 1 (pc' := 51) (l' := [some (.ref 10), some (.int x1), some (.int x2), some (.int x3), some (.ref 53)]) (st' := [.ref 10]) (fun _ => rfl) ?_
      refine t_gr (rfl : mfetch 91 51 = some (51, .getfield 36, 3, 4, 5, 0)) rfl rfl ?_
      refine mEnds.stp 1 (pc' := 56) (l' := [some (.ref 10), some (.int x1), some (.int x2), some (.int x3), some (.ref 53)]) (st' := [.ref 53, .ref 23]) (fun _ => rfl) ?_
      obtain ⟨v2, hv2, hf⟩ := ob hf
      refine t_cv (as := [.ref 53]) (st := []) (rfl : mfetch 91 56 = some (56, .invokevirtual 236, 3, 2, 0, 0)) rfl rfl rfl rfl rfl (ok_F_holdIn isH_53 hv2) ?_
      by_cases hc2 : v2.1 = 0
      · rw [if_pos hc2] at hf
        refine t_jT (t := 68) (rfl : mfetch 91 59 = some (59, .ifCond .eq 9, 3, 0, 0, 0)) rfl (k_eq hc2) ?_
        refine mEnds.stp 2 (pc' := 31) (l' := [some (.ref 10), some (.int x1), some (.int x2), some (.int (x3 + (nI 1))), some (.ref 53)]) (st' := []) (fun _ => rfl) ?_
        refine mEnds.cut (l := [some (.ref 10), some (.int x1), some (.int x2), some (.int (x3 + (nI 1))), none]) ⟨rfl, ⟨rfl, ⟨rfl, ⟨rfl, trivial⟩⟩⟩⟩ ?_
        exact ok_C_kinds_31 fu x2 (x3 + (nI 1)) v2.2 _ hf
      · rw [if_neg hc2] at hf
        refine t_jF (rfl : mfetch 91 59 = some (59, .ifCond .eq 9, 3, 0, 0, 0)) (k_eq' hc2) ?_
        refine mEnds.stp 8 (pc' := 31) (l' := [some (.ref 10), some (.int x1), some (.int (x2 ||| ((nI 1) <<< (x3 &&& 31)))), some (.int (x3 + (nI 1))), some (.ref 53)]) (st' := []) (fun _ => rfl) ?_
        refine mEnds.cut (l := [some (.ref 10), some (.int x1), some (.int (x2 ||| ((nI 1) <<< (x3 &&& 31)))), some (.int (x3 + (nI 1))), none]) ⟨rfl, ⟨rfl, ⟨rfl, ⟨rfl, trivial⟩⟩⟩⟩ ?_
        exact ok_C_kinds_31 fu (x2 ||| ((nI 1) <<< (x3 &&& 31))) (x3 + (nI 1)) v2.2 _ hf
def C_kinds (x1 : Int32) (s : sg) : Option (Int32 × sg) :=
  (H_hasRoom 11 x1 s).bind fun v1 =>
  if v1 = 0 then
    some ((-1), s)
  else
    (H_hasTongue 11 x1 s).bind fun v2 =>
    if v2 = 0 then
      some ((-2), s)
    else
      C_kinds_31 x1 FU (nI 0) (nI 0) s
set_option maxRecDepth 100000 in
theorem ok_C_kinds {x1 : Int32} {s : sg} {rv : (Int32 × sg)} (hf : C_kinds x1 s = some rv) : mEnds [] 5 91 (0, [some (.ref 10), some (.int x1), none, none, none], [], hp shC s, 0, 0) (some (.int rv.1), hp shC rv.2, 0, 0) := by
  unfold C_kinds at hf
  refine mEnds.stp 1 (pc' := 1) (l' := [some (.ref 10), some (.int x1), none, none, none]) (st' := [.ref 10]) (fun _ => rfl) ?_
  refine t_gr (rfl : mfetch 91 1 = some (1, .getfield 10, 3, 4, 0, 0)) rfl rfl ?_
  refine mEnds.stp 1 (pc' := 5) (l' := [some (.ref 10), some (.int x1), none, none, none]) (st' := [.int x1, .ref 11]) (fun _ => rfl) ?_
  obtain ⟨v1, hv1, hf⟩ := ob hf
  refine t_cv (as := [.int x1]) (st := []) (rfl : mfetch 91 5 = some (5, .invokevirtual 105, 3, 8, 0, 0)) rfl rfl rfl rfl rfl ((ok_H_hasRoom isH_11 hv1).deep 4) ?_
  by_cases hc1 : v1 = 0
  · rw [if_pos hc1] at hf
    refine t_jF (rfl : mfetch 91 8 = some (8, .ifCond .ne 5, 3, 0, 0, 0)) (k_ne' hc1) ?_
    refine mEnds.stp 1 (pc' := 12) (l' := [some (.ref 10), some (.int x1), none, none, none]) (st' := [.int (-1)]) (fun _ => rfl) ?_
    exact mEnds.rti (Option.some.inj hf) (fun _ => rfl)
  · rw [if_neg hc1] at hf
    refine t_jT (t := 13) (rfl : mfetch 91 8 = some (8, .ifCond .ne 5, 3, 0, 0, 0)) rfl (k_ne hc1) ?_
    refine mEnds.stp 1 (pc' := 14) (l' := [some (.ref 10), some (.int x1), none, none, none]) (st' := [.ref 10]) (fun _ => rfl) ?_
    refine t_gr (rfl : mfetch 91 14 = some (14, .getfield 10, 3, 4, 0, 0)) rfl rfl ?_
    refine mEnds.stp 1 (pc' := 18) (l' := [some (.ref 10), some (.int x1), none, none, none]) (st' := [.int x1, .ref 11]) (fun _ => rfl) ?_
    obtain ⟨v2, hv2, hf⟩ := ob hf
    refine t_cv (as := [.int x1]) (st := []) (rfl : mfetch 91 18 = some (18, .invokevirtual 121, 3, 10, 0, 0)) rfl rfl rfl rfl rfl ((ok_H_hasTongue isH_11 hv2).deep 4) ?_
    by_cases hc2 : v2 = 0
    · rw [if_pos hc2] at hf
      refine t_jF (rfl : mfetch 91 21 = some (21, .ifCond .ne 6, 3, 0, 0, 0)) (k_ne' hc2) ?_
      refine mEnds.stp 1 (pc' := 26) (l' := [some (.ref 10), some (.int x1), none, none, none]) (st' := [.int (-2)]) (fun _ => rfl) ?_
      exact mEnds.rti (Option.some.inj hf) (fun _ => rfl)
    · rw [if_neg hc2] at hf
      refine t_jT (t := 27) (rfl : mfetch 91 21 = some (21, .ifCond .ne 6, 3, 0, 0, 0)) rfl (k_ne hc2) ?_
      refine mEnds.stp 4 (pc' := 31) (l' := [some (.ref 10), some (.int x1), some (.int (nI 0)), some (.int (nI 0)), none]) (st' := []) (fun _ => rfl) ?_
      refine mEnds.cut (l := [some (.ref 10), some (.int x1), some (.int (nI 0)), some (.int (nI 0)), none]) ⟨rfl, ⟨rfl, ⟨rfl, ⟨rfl, trivial⟩⟩⟩⟩ ?_
      exact ok_C_kinds_31 FU (nI 0) (nI 0) s _ hf
def C_leaksAsFelt_4 (x1 : Int32) : Nat → Int32 → Int32 → sg → Option (Int32 × sg)
  | 0, _, _, _ => none
  | fu + 1, x2, x3, s =>
  if nI 9 < x3 then
    some (x2, s)
  else
    (C_copyOfNow s).bind fun s1 =>
    (midx x1 5).bind fun j1 =>
    (some (up s1 59 j1 x3)).bind fun s2 =>
    (F_holdIn 53 s2).bind fun v2 =>
    if v2.1 = 0 then
      C_leaksAsFelt_4 x1 fu x2 (x3 + (nI 1)) v2.2
    else
      C_leaksAsFelt_4 x1 fu (x2 ||| ((nI 1) <<< (x3 &&& 31))) (x3 + (nI 1)) v2.2
set_option maxRecDepth 100000 in
theorem ok_C_leaksAsFelt_4 {x1 : Int32} : ∀ (fu : Nat) (x2 : Int32) (x3 : Int32) (s : sg) (rv : (Int32 × sg)), C_leaksAsFelt_4 x1 fu x2 x3 s = some rv → mEnds [] 5 93 (4, [some (.ref 10), some (.int x1), some (.int x2), some (.int x3), none], [], hp shC s, 0, 0) (some (.int rv.1), hp shC rv.2, 0, 0)
  | 0, _, _, _, _, hf => by cases hf
  | fu + 1, x2, x3, s, rv, hf => by
    rw [C_leaksAsFelt_4] at hf
    refine mEnds.stp 2 (pc' := 7) (l' := [some (.ref 10), some (.int x1), some (.int x2), some (.int x3), none]) (st' := [.int (nI 9), .int x3]) (fun _ => rfl) ?_
    by_cases hc1 : nI 9 < x3
    · rw [if_pos hc1] at hf
      refine t_cT (t := 48) (rfl : mfetch 93 7 = some (7, .if_icmp .gt 41, 3, 0, 0, 0)) rfl (k_gt hc1) ?_
      refine mEnds.stp 1 (pc' := 49) (l' := [some (.ref 10), some (.int x1), some (.int x2), some (.int x3), none]) (st' := [.int x2]) (fun _ => rfl) ?_
      exact mEnds.rti (Option.some.inj hf) (fun _ => rfl)
    · rw [if_neg hc1] at hf
      refine t_cF (rfl : mfetch 93 7 = some (7, .if_icmp .gt 41, 3, 0, 0, 0)) (k_gt' hc1) ?_
      refine mEnds.stp 1 (pc' := 11) (l' := [some (.ref 10), some (.int x1), some (.int x2), some (.int x3), none]) (st' := [.ref 10]) (fun _ => rfl) ?_
      obtain ⟨s1, hs1, hf⟩ := ob hf
      refine t_cv (as := []) (st := []) (rfl : mfetch 93 11 = some (11, .invokevirtual 167, 3, 109, 0, 0)) rfl rfl rfl rfl rfl ((ok_C_copyOfNow hs1).deep 3) ?_
      refine mEnds.stp 2 (pc' := 18) (l' := [some (.ref 10), some (.int x1), some (.int x2), some (.int x3), some (.ref 53)]) (st' := [.ref 53]) (fun _ => rfl) ?_
      refine t_gr (rfl : mfetch 93 18 = some (18, .getfield 144, 3, 1, 10, 0)) rfl rfl ?_
      refine mEnds.stp 2 (pc' := 23) (l' := [some (.ref 10), some (.int x1), some (.int x2), some (.int x3), some (.ref 53)]) (st' := [.int x3, .int x1, .ref 59]) (fun _ => rfl) ?_
      obtain ⟨j1, hj1, hf⟩ := ob hf
      obtain ⟨s2, hs2, hf⟩ := ob hf
      refine t_is (rfl : mfetch 93 23 = some (23, .iastore, 1, 0, 0, 0)) rfl rfl hj1 hs2 ?_
      refine mEnds.stp 1 (pc' := 25) (l' := [some (.ref 10), some (.int x1), some (.int x2), some (.int x3), some (.ref 53)]) (st' := [.ref 10]) (fun _ => rfl) ?_
      refine t_gr (rfl : mfetch 93 25 = some (25, .getfield 36, 3, 4, 5, 0)) rfl rfl ?_
      refine mEnds.stp 1 (pc' := 30) (l' := [some (.ref 10), some (.int x1), some (.int x2), some (.int x3), some (.ref 53)]) (st' := [.ref 53, .ref 23]) (fun _ => rfl) ?_
      obtain ⟨v2, hv2, hf⟩ := ob hf
      refine t_cv (as := [.ref 53]) (st := []) (rfl : mfetch 93 30 = some (30, .invokevirtual 236, 3, 2, 0, 0)) rfl rfl rfl rfl rfl (ok_F_holdIn isH_53 hv2) ?_
      by_cases hc2 : v2.1 = 0
      · rw [if_pos hc2] at hf
        refine t_jT (t := 42) (rfl : mfetch 93 33 = some (33, .ifCond .eq 9, 3, 0, 0, 0)) rfl (k_eq hc2) ?_
        refine mEnds.stp 2 (pc' := 4) (l' := [some (.ref 10), some (.int x1), some (.int x2), some (.int (x3 + (nI 1))), some (.ref 53)]) (st' := []) (fun _ => rfl) ?_
        refine mEnds.cut (l := [some (.ref 10), some (.int x1), some (.int x2), some (.int (x3 + (nI 1))), none]) ⟨rfl, ⟨rfl, ⟨rfl, ⟨rfl, trivial⟩⟩⟩⟩ ?_
        exact ok_C_leaksAsFelt_4 fu x2 (x3 + (nI 1)) v2.2 _ hf
      · rw [if_neg hc2] at hf
        refine t_jF (rfl : mfetch 93 33 = some (33, .ifCond .eq 9, 3, 0, 0, 0)) (k_eq' hc2) ?_
        refine mEnds.stp 8 (pc' := 4) (l' := [some (.ref 10), some (.int x1), some (.int (x2 ||| ((nI 1) <<< (x3 &&& 31)))), some (.int (x3 + (nI 1))), some (.ref 53)]) (st' := []) (fun _ => rfl) ?_
        refine mEnds.cut (l := [some (.ref 10), some (.int x1), some (.int (x2 ||| ((nI 1) <<< (x3 &&& 31)))), some (.int (x3 + (nI 1))), none]) ⟨rfl, ⟨rfl, ⟨rfl, ⟨rfl, trivial⟩⟩⟩⟩ ?_
        exact ok_C_leaksAsFelt_4 fu (x2 ||| ((nI 1) <<< (x3 &&& 31))) (x3 + (nI 1)) v2.2 _ hf
def C_leaksAsFelt (x1 : Int32) (s : sg) : Option (Int32 × sg) :=
  C_leaksAsFelt_4 x1 FU (nI 0) (nI 0) s
set_option maxRecDepth 100000 in
theorem ok_C_leaksAsFelt {x1 : Int32} {s : sg} {rv : (Int32 × sg)} (hf : C_leaksAsFelt x1 s = some rv) : mEnds [] 5 93 (0, [some (.ref 10), some (.int x1), none, none, none], [], hp shC s, 0, 0) (some (.int rv.1), hp shC rv.2, 0, 0) := by
  unfold C_leaksAsFelt at hf
  refine mEnds.stp 4 (pc' := 4) (l' := [some (.ref 10), some (.int x1), some (.int (nI 0)), some (.int (nI 0)), none]) (st' := []) (fun _ => rfl) ?_
  refine mEnds.cut (l := [some (.ref 10), some (.int x1), some (.int (nI 0)), some (.int (nI 0)), none]) ⟨rfl, ⟨rfl, ⟨rfl, ⟨rfl, trivial⟩⟩⟩⟩ ?_
  exact ok_C_leaksAsFelt_4 FU (nI 0) (nI 0) s _ hf
def C_lets (x1 : Int32) (s : sg) : Option (Int32 × sg) :=
  (H_hasWall 11 x1 s).bind fun v1 =>
  if v1 = 0 then
    some ((-1), s)
  else
    (C_leaksAsFelt x1 s).bind fun v2 =>
    some (v2.1, v2.2)
set_option maxRecDepth 100000 in
theorem ok_C_lets {x1 : Int32} {s : sg} {rv : (Int32 × sg)} (hf : C_lets x1 s = some rv) : mEnds [] 6 92 (0, [some (.ref 10), some (.int x1)], [], hp shC s, 0, 0) (some (.int rv.1), hp shC rv.2, 0, 0) := by
  unfold C_lets at hf
  refine mEnds.stp 1 (pc' := 1) (l' := [some (.ref 10), some (.int x1)]) (st' := [.ref 10]) (fun _ => rfl) ?_
  refine t_gr (rfl : mfetch 92 1 = some (1, .getfield 10, 3, 4, 0, 0)) rfl rfl ?_
  refine mEnds.stp 1 (pc' := 5) (l' := [some (.ref 10), some (.int x1)]) (st' := [.int x1, .ref 11]) (fun _ => rfl) ?_
  obtain ⟨v1, hv1, hf⟩ := ob hf
  refine t_cv (as := [.int x1]) (st := []) (rfl : mfetch 92 5 = some (5, .invokevirtual 141, 3, 9, 0, 0)) rfl rfl rfl rfl rfl ((ok_H_hasWall isH_11 hv1).deep 5) ?_
  by_cases hc1 : v1 = 0
  · rw [if_pos hc1] at hf
    refine t_jT (t := 19) (rfl : mfetch 92 8 = some (8, .ifCond .eq 11, 3, 0, 0, 0)) rfl (k_eq hc1) ?_
    refine mEnds.stp 1 (pc' := 20) (l' := [some (.ref 10), some (.int x1)]) (st' := [.int (-1)]) (fun _ => rfl) ?_
    exact mEnds.rti (Option.some.inj hf) (fun _ => rfl)
  · rw [if_neg hc1] at hf
    refine t_jF (rfl : mfetch 92 8 = some (8, .ifCond .eq 11, 3, 0, 0, 0)) (k_eq' hc1) ?_
    refine mEnds.stp 2 (pc' := 13) (l' := [some (.ref 10), some (.int x1)]) (st' := [.int x1, .ref 10]) (fun _ => rfl) ?_
    obtain ⟨v2, hv2, hf⟩ := ob hf
    refine t_cv (as := [.int x1]) (st := []) (rfl : mfetch 92 13 = some (13, .invokevirtual 239, 3, 93, 0, 0)) rfl rfl rfl rfl rfl (ok_C_leaksAsFelt hv2) ?_
    refine mEnds.stp 1 (pc' := 20) (l' := [some (.ref 10), some (.int x1)]) (st' := [.int v2.1]) (fun _ => rfl) ?_
    exact mEnds.rti (Option.some.inj hf) (fun _ => rfl)
def C_layOutTrials_5 (x1 : Int32) (x2 : Int32) : Nat → Int32 → Int32 → sg → Option (Int32 × sg)
  | 0, _, _, _ => none
  | fu + 1, x3, x4, s =>
  if nI 9 < x4 then
    some (x3, s)
  else
    if x3 < nI 10 then
      if (x2 >>> (x4 &&& 31)) &&& (nI 1) = nI 1 then
        (midx x3 10).bind fun j1 =>
        (H_copyFrom (53 + 8 * j1) 11 s).bind fun s1 =>
        (midx x3 10).bind fun j2 =>
        (midx x1 5).bind fun j3 =>
        (some (up s1 ((53 + 8 * j2) + 6) j3 x4)).bind fun s2 =>
        C_layOutTrials_5 x1 x2 fu (x3 + (nI 1)) (x4 + (nI 1)) s2
      else
        C_layOutTrials_5 x1 x2 fu x3 (x4 + (nI 1)) s
    else
      some (x3, s)
set_option maxRecDepth 100000 in
theorem ok_C_layOutTrials_5 {x1 : Int32} {x2 : Int32} : ∀ (fu : Nat) (x3 : Int32) (x4 : Int32) (s : sg) (rv : (Int32 × sg)), C_layOutTrials_5 x1 x2 fu x3 x4 s = some rv → mEnds [] 1 95 (5, [some (.ref 10), some (.int x1), some (.int x2), some (.int x3), some (.int x4)], [], hp shC s, 0, 0) (some (.int rv.1), hp shC rv.2, 0, 0)
  | 0, _, _, _, _, hf => by cases hf
  | fu + 1, x3, x4, s, rv, hf => by
    rw [C_layOutTrials_5] at hf
    refine mEnds.stp 2 (pc' := 9) (l' := [some (.ref 10), some (.int x1), some (.int x2), some (.int x3), some (.int x4)]) (st' := [.int (nI 9), .int x4]) (fun _ => rfl) ?_
    by_cases hc1 : nI 9 < x4
    · rw [if_pos hc1] at hf
      refine t_cT (t := 63) (rfl : mfetch 95 9 = some (9, .if_icmp .gt 54, 3, 0, 0, 0)) rfl (k_gt hc1) ?_
      refine mEnds.stp 1 (pc' := 64) (l' := [some (.ref 10), some (.int x1), some (.int x2), some (.int x3), some (.int x4)]) (st' := [.int x3]) (fun _ => rfl) ?_
      exact mEnds.rti (Option.some.inj hf) (fun _ => rfl)
    · rw [if_neg hc1] at hf
      refine t_cF (rfl : mfetch 95 9 = some (9, .if_icmp .gt 54, 3, 0, 0, 0)) (k_gt' hc1) ?_
      refine mEnds.stp 2 (pc' := 15) (l' := [some (.ref 10), some (.int x1), some (.int x2), some (.int x3), some (.int x4)]) (st' := [.int (nI 10), .int x3]) (fun _ => rfl) ?_
      by_cases hc2 : x3 < nI 10
      · rw [if_pos hc2] at hf
        refine t_cF (rfl : mfetch 95 15 = some (15, .if_icmp .ge 48, 3, 0, 0, 0)) (k_ge' hc2) ?_
        refine mEnds.stp 6 (pc' := 25) (l' := [some (.ref 10), some (.int x1), some (.int x2), some (.int x3), some (.int x4)]) (st' := [.int (nI 1), .int ((x2 >>> (x4 &&& 31)) &&& (nI 1))]) (fun _ => rfl) ?_
        by_cases hc3 : (x2 >>> (x4 &&& 31)) &&& (nI 1) = nI 1
        · rw [if_pos hc3] at hf
          refine t_cF (rfl : mfetch 95 25 = some (25, .if_icmp .ne 32, 3, 0, 0, 0)) (k_ne' hc3) ?_
          refine mEnds.stp 1 (pc' := 29) (l' := [some (.ref 10), some (.int x1), some (.int x2), some (.int x3), some (.int x4)]) (st' := [.ref 10]) (fun _ => rfl) ?_
          refine t_gr (rfl : mfetch 95 29 = some (29, .getfield 24, 3, 4, 3, 0)) rfl rfl ?_
          refine mEnds.stp 1 (pc' := 33) (l' := [some (.ref 10), some (.int x1), some (.int x2), some (.int x3), some (.int x4)]) (st' := [.int x3, .ref 21]) (fun _ => rfl) ?_
          obtain ⟨j1, hj1, hf⟩ := ob hf
          refine t_aa (rfl : mfetch 95 33 = some (33, .aaload, 1, 0, 0, 0)) rfl rfl rfl hj1 (el_tr (mi_lt hj1)) ?_
          refine mEnds.stp 1 (pc' := 35) (l' := [some (.ref 10), some (.int x1), some (.int x2), some (.int x3), some (.int x4)]) (st' := [.ref 10, .ref (53 + 8 * j1)]) (fun _ => rfl) ?_
          refine t_gr (rfl : mfetch 95 35 = some (35, .getfield 10, 3, 4, 0, 0)) rfl rfl ?_
          obtain ⟨s1, hs1, hf⟩ := ob hf
          refine t_cv (as := [.ref 11]) (st := []) (rfl : mfetch 95 38 = some (38, .invokevirtual 70, 3, 7, 0, 0)) (isH_tr (mi_lt hj1)).1 rfl rfl rfl rfl (ok_H_copyFrom (isH_tr (mi_lt hj1)) isH_11 hs1) ?_
          refine mEnds.stp 1 (pc' := 42) (l' := [some (.ref 10), some (.int x1), some (.int x2), some (.int x3), some (.int x4)]) (st' := [.ref 10]) (fun _ => rfl) ?_
          refine t_gr (rfl : mfetch 95 42 = some (42, .getfield 24, 3, 4, 3, 0)) rfl rfl ?_
          refine mEnds.stp 1 (pc' := 46) (l' := [some (.ref 10), some (.int x1), some (.int x2), some (.int x3), some (.int x4)]) (st' := [.int x3, .ref 21]) (fun _ => rfl) ?_
          obtain ⟨j2, hj2, hf⟩ := ob hf
          refine t_aa (rfl : mfetch 95 46 = some (46, .aaload, 1, 0, 0, 0)) rfl rfl rfl hj2 (el_tr (mi_lt hj2)) ?_
          refine t_gr (rfl : mfetch 95 47 = some (47, .getfield 144, 3, 1, 10, 0)) (isH_tr (mi_lt hj2)).1 rfl ?_
          refine mEnds.stp 2 (pc' := 53) (l' := [some (.ref 10), some (.int x1), some (.int x2), some (.int x3), some (.int x4)]) (st' := [.int x4, .int x1, .ref ((53 + 8 * j2) + 6)]) (fun _ => rfl) ?_
          obtain ⟨j3, hj3, hf⟩ := ob hf
          obtain ⟨s2, hs2, hf⟩ := ob hf
          refine t_is (rfl : mfetch 95 53 = some (53, .iastore, 1, 0, 0, 0)) (isH_tr (mi_lt hj2)).2.2.2.2.2.2.1 (isH_le (isH_tr (mi_lt hj2)) 6) hj3 hs2 ?_
          refine mEnds.stp 3 (pc' := 5) (l' := [some (.ref 10), some (.int x1), some (.int x2), some (.int (x3 + (nI 1))), some (.int (x4 + (nI 1)))]) (st' := []) (fun _ => rfl) ?_
          refine mEnds.cut (l := [some (.ref 10), some (.int x1), some (.int x2), some (.int (x3 + (nI 1))), some (.int (x4 + (nI 1)))]) ⟨rfl, ⟨rfl, ⟨rfl, ⟨rfl, ⟨rfl, trivial⟩⟩⟩⟩⟩ ?_
          exact ok_C_layOutTrials_5 fu (x3 + (nI 1)) (x4 + (nI 1)) s2 _ hf
        · rw [if_neg hc3] at hf
          refine t_cT (t := 57) (rfl : mfetch 95 25 = some (25, .if_icmp .ne 32, 3, 0, 0, 0)) rfl (k_ne hc3) ?_
          refine mEnds.stp 2 (pc' := 5) (l' := [some (.ref 10), some (.int x1), some (.int x2), some (.int x3), some (.int (x4 + (nI 1)))]) (st' := []) (fun _ => rfl) ?_
          refine mEnds.cut (l := [some (.ref 10), some (.int x1), some (.int x2), some (.int x3), some (.int (x4 + (nI 1)))]) ⟨rfl, ⟨rfl, ⟨rfl, ⟨rfl, ⟨rfl, trivial⟩⟩⟩⟩⟩ ?_
          exact ok_C_layOutTrials_5 fu x3 (x4 + (nI 1)) s _ hf
      · rw [if_neg hc2] at hf
        refine t_cT (t := 63) (rfl : mfetch 95 15 = some (15, .if_icmp .ge 48, 3, 0, 0, 0)) rfl (k_ge hc2) ?_
        refine mEnds.stp 1 (pc' := 64) (l' := [some (.ref 10), some (.int x1), some (.int x2), some (.int x3), some (.int x4)]) (st' := [.int x3]) (fun _ => rfl) ?_
        exact mEnds.rti (Option.some.inj hf) (fun _ => rfl)
def C_layOutTrials (x1 : Int32) (x2 : Int32) (s : sg) : Option (Int32 × sg) :=
  C_layOutTrials_5 x1 x2 FU (nI 0) (nI 0) s
set_option maxRecDepth 100000 in
theorem ok_C_layOutTrials {x1 : Int32} {x2 : Int32} {s : sg} {rv : (Int32 × sg)} (hf : C_layOutTrials x1 x2 s = some rv) : mEnds [] 1 95 (0, [some (.ref 10), some (.int x1), some (.int x2), none, none], [], hp shC s, 0, 0) (some (.int rv.1), hp shC rv.2, 0, 0) := by
  unfold C_layOutTrials at hf
  refine mEnds.stp 4 (pc' := 5) (l' := [some (.ref 10), some (.int x1), some (.int x2), some (.int (nI 0)), some (.int (nI 0))]) (st' := []) (fun _ => rfl) ?_
  refine mEnds.cut (l := [some (.ref 10), some (.int x1), some (.int x2), some (.int (nI 0)), some (.int (nI 0))]) ⟨rfl, ⟨rfl, ⟨rfl, ⟨rfl, ⟨rfl, trivial⟩⟩⟩⟩⟩ ?_
  exact ok_C_layOutTrials_5 FU (nI 0) (nI 0) s _ hf
def C_mostAlike_17 (k5 : Int32 → Int32 → Option Int32) (x1 : Int32) (x2 : Int32) (x3 : Int32) (x4 : Int32) (s : sg) : Nat → Int32 → Int32 → Option Int32
  | 0, _, _ => none
  | fu + 1, x5, x6 =>
  if x6 < x1 then
    (midx x4 10).bind fun j1 =>
    (midx x2 6).bind fun j2 =>
    (midx x6 10).bind fun j3 =>
    (midx x2 6).bind fun j4 =>
    if s ((53 + 8 * j1) + 1) j2 = s ((53 + 8 * j3) + 1) j4 then
      C_mostAlike_17 k5 x1 x2 x3 x4 s fu (x5 + (nI 1)) (x6 + (nI 1))
    else
      C_mostAlike_17 k5 x1 x2 x3 x4 s fu x5 (x6 + (nI 1))
  else
    k5 (if x3 < x5 then x5 else x3) (x4 + (nI 1))
set_option maxRecDepth 100000 in
theorem ok_C_mostAlike_17 {k5 : Int32 → Int32 → Option Int32} {x1 : Int32} {x2 : Int32} {x3 : Int32} {x4 : Int32} {s : sg} (hk5 : ∀ (x3 : Int32) (x4 : Int32) (rv : Int32), k5 x3 x4 = some rv → mEnds [] 0 96 (5, [some (.ref 10), some (.int x1), some (.int x2), some (.int x3), some (.int x4), none, none], [], hp shC s, 0, 0) (some (.int rv), hp shC s, 0, 0)) : ∀ (fu : Nat) (x5 : Int32) (x6 : Int32) (rv : Int32), C_mostAlike_17 k5 x1 x2 x3 x4 s fu x5 x6 = some rv → mEnds [] 0 96 (17, [some (.ref 10), some (.int x1), some (.int x2), some (.int x3), some (.int x4), some (.int x5), some (.int x6)], [], hp shC s, 0, 0) (some (.int rv), hp shC s, 0, 0)
  | 0, _, _, _, hf => by cases hf
  | fu + 1, x5, x6, rv, hf => by
    rw [C_mostAlike_17] at hf
    refine mEnds.stp 2 (pc' := 20) (l' := [some (.ref 10), some (.int x1), some (.int x2), some (.int x3), some (.int x4), some (.int x5), some (.int x6)]) (st' := [.int x1, .int x6]) (fun _ => rfl) ?_
    by_cases hc1 : x6 < x1
    · rw [if_pos hc1] at hf
      refine t_cF (rfl : mfetch 96 20 = some (20, .if_icmp .ge 39, 3, 0, 0, 0)) (k_ge' hc1) ?_
      refine mEnds.stp 1 (pc' := 24) (l' := [some (.ref 10), some (.int x1), some (.int x2), some (.int x3), some (.int x4), some (.int x5), some (.int x6)]) (st' := [.ref 10]) (fun _ => rfl) ?_
      refine t_gr (rfl : mfetch 96 24 = some (24, .getfield 24, 3, 4, 3, 0)) rfl rfl ?_
      refine mEnds.stp 1 (pc' := 29) (l' := [some (.ref 10), some (.int x1), some (.int x2), some (.int x3), some (.int x4), some (.int x5), some (.int x6)]) (st' := [.int x4, .ref 21]) (fun _ => rfl) ?_
      obtain ⟨j1, hj1, hf⟩ := ob hf
      refine t_aa (rfl : mfetch 96 29 = some (29, .aaload, 1, 0, 0, 0)) rfl rfl rfl hj1 (el_tr (mi_lt hj1)) ?_
      refine t_gr (rfl : mfetch 96 30 = some (30, .getfield 108, 3, 1, 5, 0)) (isH_tr (mi_lt hj1)).1 rfl ?_
      refine mEnds.stp 1 (pc' := 34) (l' := [some (.ref 10), some (.int x1), some (.int x2), some (.int x3), some (.int x4), some (.int x5), some (.int x6)]) (st' := [.int x2, .ref ((53 + 8 * j1) + 1)]) (fun _ => rfl) ?_
      obtain ⟨j2, hj2, hf⟩ := ob hf
      refine t_ia (rfl : mfetch 96 34 = some (34, .iaload, 1, 0, 0, 0)) (isH_tr (mi_lt hj1)).2.1 (isH_le (isH_tr (mi_lt hj1)) 1) hj2 ?_
      refine mEnds.stp 1 (pc' := 36) (l' := [some (.ref 10), some (.int x1), some (.int x2), some (.int x3), some (.int x4), some (.int x5), some (.int x6)]) (st' := [.ref 10, .int (s ((53 + 8 * j1) + 1) j2)]) (fun _ => rfl) ?_
      refine t_gr (rfl : mfetch 96 36 = some (36, .getfield 24, 3, 4, 3, 0)) rfl rfl ?_
      refine mEnds.stp 1 (pc' := 41) (l' := [some (.ref 10), some (.int x1), some (.int x2), some (.int x3), some (.int x4), some (.int x5), some (.int x6)]) (st' := [.int x6, .ref 21, .int (s ((53 + 8 * j1) + 1) j2)]) (fun _ => rfl) ?_
      obtain ⟨j3, hj3, hf⟩ := ob hf
      refine t_aa (rfl : mfetch 96 41 = some (41, .aaload, 1, 0, 0, 0)) rfl rfl rfl hj3 (el_tr (mi_lt hj3)) ?_
      refine t_gr (rfl : mfetch 96 42 = some (42, .getfield 108, 3, 1, 5, 0)) (isH_tr (mi_lt hj3)).1 rfl ?_
      refine mEnds.stp 1 (pc' := 46) (l' := [some (.ref 10), some (.int x1), some (.int x2), some (.int x3), some (.int x4), some (.int x5), some (.int x6)]) (st' := [.int x2, .ref ((53 + 8 * j3) + 1), .int (s ((53 + 8 * j1) + 1) j2)]) (fun _ => rfl) ?_
      obtain ⟨j4, hj4, hf⟩ := ob hf
      refine t_ia (rfl : mfetch 96 46 = some (46, .iaload, 1, 0, 0, 0)) (isH_tr (mi_lt hj3)).2.1 (isH_le (isH_tr (mi_lt hj3)) 1) hj4 ?_
      by_cases hc2 : s ((53 + 8 * j1) + 1) j2 = s ((53 + 8 * j3) + 1) j4
      · rw [if_pos hc2] at hf
        refine t_cF (rfl : mfetch 96 47 = some (47, .if_icmp .ne 6, 3, 0, 0, 0)) (k_ne' hc2) ?_
        refine mEnds.stp 3 (pc' := 17) (l' := [some (.ref 10), some (.int x1), some (.int x2), some (.int x3), some (.int x4), some (.int (x5 + (nI 1))), some (.int (x6 + (nI 1)))]) (st' := []) (fun _ => rfl) ?_
        refine mEnds.cut (l := [some (.ref 10), some (.int x1), some (.int x2), some (.int x3), some (.int x4), some (.int (x5 + (nI 1))), some (.int (x6 + (nI 1)))]) ⟨rfl, ⟨rfl, ⟨rfl, ⟨rfl, ⟨rfl, ⟨rfl, ⟨rfl, trivial⟩⟩⟩⟩⟩⟩⟩ ?_
        exact ok_C_mostAlike_17 hk5 fu (x5 + (nI 1)) (x6 + (nI 1)) _ hf
      · rw [if_neg hc2] at hf
        refine t_cT (t := 53) (rfl : mfetch 96 47 = some (47, .if_icmp .ne 6, 3, 0, 0, 0)) rfl (k_ne hc2) ?_
        refine mEnds.stp 2 (pc' := 17) (l' := [some (.ref 10), some (.int x1), some (.int x2), some (.int x3), some (.int x4), some (.int x5), some (.int (x6 + (nI 1)))]) (st' := []) (fun _ => rfl) ?_
        refine mEnds.cut (l := [some (.ref 10), some (.int x1), some (.int x2), some (.int x3), some (.int x4), some (.int x5), some (.int (x6 + (nI 1)))]) ⟨rfl, ⟨rfl, ⟨rfl, ⟨rfl, ⟨rfl, ⟨rfl, ⟨rfl, trivial⟩⟩⟩⟩⟩⟩⟩ ?_
        exact ok_C_mostAlike_17 hk5 fu x5 (x6 + (nI 1)) _ hf
    · rw [if_neg hc1] at hf
      refine t_cT (t := 59) (rfl : mfetch 96 20 = some (20, .if_icmp .ge 39, 3, 0, 0, 0)) rfl (k_ge hc1) ?_
      refine mEnds.stp 6 (pc' := 5) (l' := [some (.ref 10), some (.int x1), some (.int x2), some (.int (if x3 < x5 then x5 else x3)), some (.int (x4 + (nI 1))), some (.int x5), some (.int x6)]) (st' := []) (fun _ => rfl) ?_
      refine mEnds.cut (l := [some (.ref 10), some (.int x1), some (.int x2), some (.int (if x3 < x5 then x5 else x3)), some (.int (x4 + (nI 1))), none, none]) ⟨rfl, ⟨rfl, ⟨rfl, ⟨rfl, ⟨rfl, trivial⟩⟩⟩⟩⟩ ?_
      exact hk5 (if x3 < x5 then x5 else x3) (x4 + (nI 1)) _ hf
def C_mostAlike_5 (x1 : Int32) (x2 : Int32) (s : sg) : Nat → Int32 → Int32 → Option Int32
  | 0, _, _ => none
  | fu + 1, x3, x4 =>
  if x4 < x1 then
    C_mostAlike_17 (C_mostAlike_5 x1 x2 s fu) x1 x2 x3 x4 s FU (nI 0) (nI 0)
  else
    some x3
set_option maxRecDepth 100000 in
theorem ok_C_mostAlike_5 {x1 : Int32} {x2 : Int32} {s : sg} : ∀ (fu : Nat) (x3 : Int32) (x4 : Int32) (rv : Int32), C_mostAlike_5 x1 x2 s fu x3 x4 = some rv → mEnds [] 0 96 (5, [some (.ref 10), some (.int x1), some (.int x2), some (.int x3), some (.int x4), none, none], [], hp shC s, 0, 0) (some (.int rv), hp shC s, 0, 0)
  | 0, _, _, _, hf => by cases hf
  | fu + 1, x3, x4, rv, hf => by
    rw [C_mostAlike_5] at hf
    refine mEnds.stp 2 (pc' := 8) (l' := [some (.ref 10), some (.int x1), some (.int x2), some (.int x3), some (.int x4), none, none]) (st' := [.int x1, .int x4]) (fun _ => rfl) ?_
    by_cases hc1 : x4 < x1
    · rw [if_pos hc1] at hf
      refine t_cF (rfl : mfetch 96 8 = some (8, .if_icmp .ge 64, 3, 0, 0, 0)) (k_ge' hc1) ?_
      refine mEnds.stp 4 (pc' := 17) (l' := [some (.ref 10), some (.int x1), some (.int x2), some (.int x3), some (.int x4), some (.int (nI 0)), some (.int (nI 0))]) (st' := []) (fun _ => rfl) ?_
      refine mEnds.cut (l := [some (.ref 10), some (.int x1), some (.int x2), some (.int x3), some (.int x4), some (.int (nI 0)), some (.int (nI 0))]) ⟨rfl, ⟨rfl, ⟨rfl, ⟨rfl, ⟨rfl, ⟨rfl, ⟨rfl, trivial⟩⟩⟩⟩⟩⟩⟩ ?_
      exact ok_C_mostAlike_17 (ok_C_mostAlike_5 fu) FU (nI 0) (nI 0) _ hf
    · rw [if_neg hc1] at hf
      refine t_cT (t := 72) (rfl : mfetch 96 8 = some (8, .if_icmp .ge 64, 3, 0, 0, 0)) rfl (k_ge hc1) ?_
      refine mEnds.stp 1 (pc' := 73) (l' := [some (.ref 10), some (.int x1), some (.int x2), some (.int x3), some (.int x4), none, none]) (st' := [.int x3]) (fun _ => rfl) ?_
      cases hf; exact mEnds.rt (fun _ => rfl)
def C_mostAlike (x1 : Int32) (x2 : Int32) (s : sg) : Option Int32 :=
  C_mostAlike_5 x1 x2 s FU (nI 0) (nI 0)
set_option maxRecDepth 100000 in
theorem ok_C_mostAlike {x1 : Int32} {x2 : Int32} {s : sg} {rv : Int32} (hf : C_mostAlike x1 x2 s = some rv) : mEnds [] 0 96 (0, [some (.ref 10), some (.int x1), some (.int x2), none, none, none, none], [], hp shC s, 0, 0) (some (.int rv), hp shC s, 0, 0) := by
  unfold C_mostAlike at hf
  refine mEnds.stp 4 (pc' := 5) (l' := [some (.ref 10), some (.int x1), some (.int x2), some (.int (nI 0)), some (.int (nI 0)), none, none]) (st' := []) (fun _ => rfl) ?_
  refine mEnds.cut (l := [some (.ref 10), some (.int x1), some (.int x2), some (.int (nI 0)), some (.int (nI 0)), none, none]) ⟨rfl, ⟨rfl, ⟨rfl, ⟨rfl, ⟨rfl, trivial⟩⟩⟩⟩⟩ ?_
  exact ok_C_mostAlike_5 FU (nI 0) (nI 0) _ hf
def C_ask_104 (k43 : Int32 → Int32 → Int32 → sg → Option (Int32 × sg)) (x2 : Int32) (x3 : Int32) (x4 : Int32) (x5 : Int32) (x6 : Int32) : Nat → Int32 → sg → Option (Int32 × sg)
  | 0, _, _ => none
  | fu + 1, x7, s =>
  if x7 < x3 then
    (midx x7 10).bind fun j1 =>
    (H_passHour (53 + 8 * j1) s).bind fun s1 =>
    C_ask_104 k43 x2 x3 x4 x5 x6 fu (x7 + (nI 1)) s1
  else
    k43 x4 x5 (x6 + (nI 1)) s
set_option maxRecDepth 100000 in
theorem ok_C_ask_104 {k43 : Int32 → Int32 → Int32 → sg → Option (Int32 × sg)} {x2 : Int32} {x3 : Int32} {x4 : Int32} {x5 : Int32} {x6 : Int32} (hk43 : ∀ (x4 : Int32) (x5 : Int32) (x6 : Int32) (s : sg) (rv : (Int32 × sg)), k43 x4 x5 x6 s = some rv → mEnds [] 6 94 (43, [some (.ref 10), none, some (.int x2), some (.int x3), some (.int x4), some (.int x5), some (.int x6), none, none], [], hp shC s, 0, 0) (some (.int rv.1), hp shC rv.2, 0, 0)) : ∀ (fu : Nat) (x7 : Int32) (s : sg) (rv : (Int32 × sg)), C_ask_104 k43 x2 x3 x4 x5 x6 fu x7 s = some rv → mEnds [] 6 94 (104, [some (.ref 10), none, some (.int x2), some (.int x3), some (.int x4), some (.int x5), some (.int x6), some (.int x7), none], [], hp shC s, 0, 0) (some (.int rv.1), hp shC rv.2, 0, 0)
  | 0, _, _, _, hf => by cases hf
  | fu + 1, x7, s, rv, hf => by
    rw [C_ask_104] at hf
    refine mEnds.stp 2 (pc' := 107) (l' := [some (.ref 10), none, some (.int x2), some (.int x3), some (.int x4), some (.int x5), some (.int x6), some (.int x7), none]) (st' := [.int x3, .int x7]) (fun _ => rfl) ?_
    by_cases hc1 : x7 < x3
    · rw [if_pos hc1] at hf
      refine t_cF (rfl : mfetch 94 107 = some (107, .if_icmp .ge 19, 3, 0, 0, 0)) (k_ge' hc1) ?_
      refine mEnds.stp 1 (pc' := 111) (l' := [some (.ref 10), none, some (.int x2), some (.int x3), some (.int x4), some (.int x5), some (.int x6), some (.int x7), none]) (st' := [.ref 10]) (fun _ => rfl) ?_
      refine t_gr (rfl : mfetch 94 111 = some (111, .getfield 24, 3, 4, 3, 0)) rfl rfl ?_
      refine mEnds.stp 1 (pc' := 116) (l' := [some (.ref 10), none, some (.int x2), some (.int x3), some (.int x4), some (.int x5), some (.int x6), some (.int x7), none]) (st' := [.int x7, .ref 21]) (fun _ => rfl) ?_
      obtain ⟨j1, hj1, hf⟩ := ob hf
      refine t_aa (rfl : mfetch 94 116 = some (116, .aaload, 1, 0, 0, 0)) rfl rfl rfl hj1 (el_tr (mi_lt hj1)) ?_
      obtain ⟨s1, hs1, hf⟩ := ob hf
      refine t_cv (as := []) (st := []) (rfl : mfetch 94 117 = some (117, .invokevirtual 174, 3, 23, 0, 0)) (isH_tr (mi_lt hj1)).1 rfl rfl rfl rfl ((ok_H_passHour (isH_tr (mi_lt hj1)) hs1).deep 2) ?_
      refine mEnds.stp 2 (pc' := 104) (l' := [some (.ref 10), none, some (.int x2), some (.int x3), some (.int x4), some (.int x5), some (.int x6), some (.int (x7 + (nI 1))), none]) (st' := []) (fun _ => rfl) ?_
      refine mEnds.cut (l := [some (.ref 10), none, some (.int x2), some (.int x3), some (.int x4), some (.int x5), some (.int x6), some (.int (x7 + (nI 1))), none]) ⟨rfl, ⟨rfl, ⟨rfl, ⟨rfl, ⟨rfl, ⟨rfl, ⟨rfl, trivial⟩⟩⟩⟩⟩⟩⟩ ?_
      exact ok_C_ask_104 hk43 fu (x7 + (nI 1)) s1 _ hf
    · rw [if_neg hc1] at hf
      refine t_cT (t := 126) (rfl : mfetch 94 107 = some (107, .if_icmp .ge 19, 3, 0, 0, 0)) rfl (k_ge hc1) ?_
      refine mEnds.stp 2 (pc' := 43) (l' := [some (.ref 10), none, some (.int x2), some (.int x3), some (.int x4), some (.int x5), some (.int (x6 + (nI 1))), some (.int x7), none]) (st' := []) (fun _ => rfl) ?_
      refine mEnds.cut (l := [some (.ref 10), none, some (.int x2), some (.int x3), some (.int x4), some (.int x5), some (.int (x6 + (nI 1))), none, none]) ⟨rfl, ⟨rfl, ⟨rfl, ⟨rfl, ⟨rfl, ⟨rfl, trivial⟩⟩⟩⟩⟩⟩ ?_
      exact hk43 x4 x5 (x6 + (nI 1)) s _ hf
def C_ask_53 (k43 : Int32 → Int32 → Int32 → sg → Option (Int32 × sg)) (x2 : Int32) (x3 : Int32) (x6 : Int32) : Nat → Int32 → Int32 → Int32 → sg → Option (Int32 × sg)
  | 0, _, _, _, _ => none
  | fu + 1, x4, x5, x7, s =>
  if x7 < s 11 0 then
    (C_mostAlike x3 x7 s).bind fun v1 =>
    if v1 < x5 then
      C_ask_53 k43 x2 x3 x6 fu (((nI 10) * x6) + x7) v1 (x7 + (nI 1)) s
    else
      C_ask_53 k43 x2 x3 x6 fu x4 x5 (x7 + (nI 1)) s
  else
    C_ask_104 k43 x2 x3 x4 x5 x6 FU (nI 0) s
set_option maxRecDepth 100000 in
theorem ok_C_ask_53 {k43 : Int32 → Int32 → Int32 → sg → Option (Int32 × sg)} {x2 : Int32} {x3 : Int32} {x6 : Int32} (hk43 : ∀ (x4 : Int32) (x5 : Int32) (x6 : Int32) (s : sg) (rv : (Int32 × sg)), k43 x4 x5 x6 s = some rv → mEnds [] 6 94 (43, [some (.ref 10), none, some (.int x2), some (.int x3), some (.int x4), some (.int x5), some (.int x6), none, none], [], hp shC s, 0, 0) (some (.int rv.1), hp shC rv.2, 0, 0)) : ∀ (fu : Nat) (x4 : Int32) (x5 : Int32) (x7 : Int32) (s : sg) (rv : (Int32 × sg)), C_ask_53 k43 x2 x3 x6 fu x4 x5 x7 s = some rv → mEnds [] 6 94 (53, [some (.ref 10), none, some (.int x2), some (.int x3), some (.int x4), some (.int x5), some (.int x6), some (.int x7), none], [], hp shC s, 0, 0) (some (.int rv.1), hp shC rv.2, 0, 0)
  | 0, _, _, _, _, _, hf => by cases hf
  | fu + 1, x4, x5, x7, s, rv, hf => by
    rw [C_ask_53] at hf
    refine mEnds.stp 2 (pc' := 56) (l' := [some (.ref 10), none, some (.int x2), some (.int x3), some (.int x4), some (.int x5), some (.int x6), some (.int x7), none]) (st' := [.ref 10, .int x7]) (fun _ => rfl) ?_
    refine t_gr (rfl : mfetch 94 56 = some (56, .getfield 10, 3, 4, 0, 0)) rfl rfl ?_
    refine t_gi (rfl : mfetch 94 59 = some (59, .getfield 83, 3, 1, 0, 0)) rfl rfl ?_
    by_cases hc1 : x7 < s 11 0
    · rw [if_pos hc1] at hf
      refine t_cF (rfl : mfetch 94 62 = some (62, .if_icmp .ge 39, 3, 0, 0, 0)) (k_ge' hc1) ?_
      refine mEnds.stp 3 (pc' := 69) (l' := [some (.ref 10), none, some (.int x2), some (.int x3), some (.int x4), some (.int x5), some (.int x6), some (.int x7), none]) (st' := [.int x7, .int x3, .ref 10]) (fun _ => rfl) ?_
      obtain ⟨v1, hv1, hf⟩ := ob hf
      refine t_cv (as := [.int x3, .int x7]) (st := []) (rfl : mfetch 94 69 = some (69, .invokevirtual 245, 3, 96, 0, 0)) rfl rfl rfl rfl rfl ((ok_C_mostAlike hv1).deep 5) ?_
      refine mEnds.stp 3 (pc' := 78) (l' := [some (.ref 10), none, some (.int x2), some (.int x3), some (.int x4), some (.int x5), some (.int x6), some (.int x7), some (.int v1)]) (st' := [.int x5, .int v1]) (fun _ => rfl) ?_
      by_cases hc2 : v1 < x5
      · rw [if_pos hc2] at hf
        refine t_cF (rfl : mfetch 94 78 = some (78, .if_icmp .ge 17, 3, 0, 0, 0)) (k_ge' hc2) ?_
        refine mEnds.stp 10 (pc' := 53) (l' := [some (.ref 10), none, some (.int x2), some (.int x3), some (.int (((nI 10) * x6) + x7)), some (.int v1), some (.int x6), some (.int (x7 + (nI 1))), some (.int v1)]) (st' := []) (fun _ => rfl) ?_
        refine mEnds.cut (l := [some (.ref 10), none, some (.int x2), some (.int x3), some (.int (((nI 10) * x6) + x7)), some (.int v1), some (.int x6), some (.int (x7 + (nI 1))), none]) ⟨rfl, ⟨rfl, ⟨rfl, ⟨rfl, ⟨rfl, ⟨rfl, ⟨rfl, trivial⟩⟩⟩⟩⟩⟩⟩ ?_
        exact ok_C_ask_53 hk43 fu (((nI 10) * x6) + x7) v1 (x7 + (nI 1)) s _ hf
      · rw [if_neg hc2] at hf
        refine t_cT (t := 95) (rfl : mfetch 94 78 = some (78, .if_icmp .ge 17, 3, 0, 0, 0)) rfl (k_ge hc2) ?_
        refine mEnds.stp 2 (pc' := 53) (l' := [some (.ref 10), none, some (.int x2), some (.int x3), some (.int x4), some (.int x5), some (.int x6), some (.int (x7 + (nI 1))), some (.int v1)]) (st' := []) (fun _ => rfl) ?_
        refine mEnds.cut (l := [some (.ref 10), none, some (.int x2), some (.int x3), some (.int x4), some (.int x5), some (.int x6), some (.int (x7 + (nI 1))), none]) ⟨rfl, ⟨rfl, ⟨rfl, ⟨rfl, ⟨rfl, ⟨rfl, ⟨rfl, trivial⟩⟩⟩⟩⟩⟩⟩ ?_
        exact ok_C_ask_53 hk43 fu x4 x5 (x7 + (nI 1)) s _ hf
    · rw [if_neg hc1] at hf
      refine t_cT (t := 101) (rfl : mfetch 94 62 = some (62, .if_icmp .ge 39, 3, 0, 0, 0)) rfl (k_ge hc1) ?_
      refine mEnds.stp 2 (pc' := 104) (l' := [some (.ref 10), none, some (.int x2), some (.int x3), some (.int x4), some (.int x5), some (.int x6), some (.int (nI 0)), none]) (st' := []) (fun _ => rfl) ?_
      refine mEnds.cut (l := [some (.ref 10), none, some (.int x2), some (.int x3), some (.int x4), some (.int x5), some (.int x6), some (.int (nI 0)), none]) ⟨rfl, ⟨rfl, ⟨rfl, ⟨rfl, ⟨rfl, ⟨rfl, ⟨rfl, trivial⟩⟩⟩⟩⟩⟩⟩ ?_
      exact ok_C_ask_104 hk43 FU (nI 0) s _ hf
def C_ask_43 (x2 : Int32) (x3 : Int32) : Nat → Int32 → Int32 → Int32 → sg → Option (Int32 × sg)
  | 0, _, _, _, _ => none
  | fu + 1, x4, x5, x6, s =>
  if nI 20 < x6 then
    (C_chosen x4 x5 x2 s).bind fun v1 =>
    some (v1, s)
  else
    C_ask_53 (C_ask_43 x2 x3 fu) x2 x3 x6 FU x4 x5 (nI 0) s
set_option maxRecDepth 100000 in
theorem ok_C_ask_43 {x2 : Int32} {x3 : Int32} : ∀ (fu : Nat) (x4 : Int32) (x5 : Int32) (x6 : Int32) (s : sg) (rv : (Int32 × sg)), C_ask_43 x2 x3 fu x4 x5 x6 s = some rv → mEnds [] 6 94 (43, [some (.ref 10), none, some (.int x2), some (.int x3), some (.int x4), some (.int x5), some (.int x6), none, none], [], hp shC s, 0, 0) (some (.int rv.1), hp shC rv.2, 0, 0)
  | 0, _, _, _, _, _, hf => by cases hf
  | fu + 1, x4, x5, x6, s, rv, hf => by
    rw [C_ask_43] at hf
    refine mEnds.stp 2 (pc' := 47) (l' := [some (.ref 10), none, some (.int x2), some (.int x3), some (.int x4), some (.int x5), some (.int x6), none, none]) (st' := [.int (nI 20), .int x6]) (fun _ => rfl) ?_
    by_cases hc1 : nI 20 < x6
    · rw [if_pos hc1] at hf
      refine t_cT (t := 132) (rfl : mfetch 94 47 = some (47, .if_icmp .gt 85, 3, 0, 0, 0)) rfl (k_gt hc1) ?_
      refine mEnds.stp 3 (pc' := 137) (l' := [some (.ref 10), none, some (.int x2), some (.int x3), some (.int x4), some (.int x5), some (.int x6), none, none]) (st' := [.int x2, .int x5, .int x4]) (fun _ => rfl) ?_
      obtain ⟨v1, hv1, hf⟩ := ob hf
      refine t_cs (as := [.int x4, .int x5, .int x2]) (st := []) (Or.inl rfl) (rfl : mfetch 94 137 = some (137, .invokestatic 189, 3, 108, 0, 0)) rfl rfl rfl ((ok_C_chosen hv1).deep 5) ?_
      exact mEnds.rti (Option.some.inj hf) (fun _ => rfl)
    · rw [if_neg hc1] at hf
      refine t_cF (rfl : mfetch 94 47 = some (47, .if_icmp .gt 85, 3, 0, 0, 0)) (k_gt' hc1) ?_
      refine mEnds.stp 2 (pc' := 53) (l' := [some (.ref 10), none, some (.int x2), some (.int x3), some (.int x4), some (.int x5), some (.int x6), some (.int (nI 0)), none]) (st' := []) (fun _ => rfl) ?_
      refine mEnds.cut (l := [some (.ref 10), none, some (.int x2), some (.int x3), some (.int x4), some (.int x5), some (.int x6), some (.int (nI 0)), none]) ⟨rfl, ⟨rfl, ⟨rfl, ⟨rfl, ⟨rfl, ⟨rfl, ⟨rfl, trivial⟩⟩⟩⟩⟩⟩⟩ ?_
      exact ok_C_ask_53 (ok_C_ask_43 fu) FU x4 x5 (nI 0) s _ hf
def C_ask (x1 : Int32) (x2 : Int32) (s : sg) : Option (Int32 × sg) :=
  (H_hasWall 11 x1 s).bind fun v1 =>
  if v1 = 0 then
    some ((-1), s)
  else
    (C_within x2 (nI 0) (nI 1) s).bind fun v2 =>
    if v2 = 0 then
      some ((-1), s)
    else
      (C_leaksAsFelt x1 s).bind fun v3 =>
      (C_layOutTrials x1 v3.1 v3.2).bind fun v4 =>
      C_ask_43 x2 v4.1 FU (-4) v4.1 (nI 0) v4.2
set_option maxRecDepth 100000 in
theorem ok_C_ask {x1 : Int32} {x2 : Int32} {s : sg} {rv : (Int32 × sg)} (hf : C_ask x1 x2 s = some rv) : mEnds [] 6 94 (0, [some (.ref 10), some (.int x1), some (.int x2), none, none, none, none, none, none], [], hp shC s, 0, 0) (some (.int rv.1), hp shC rv.2, 0, 0) := by
  unfold C_ask at hf
  refine mEnds.stp 1 (pc' := 1) (l' := [some (.ref 10), some (.int x1), some (.int x2), none, none, none, none, none, none]) (st' := [.ref 10]) (fun _ => rfl) ?_
  refine t_gr (rfl : mfetch 94 1 = some (1, .getfield 10, 3, 4, 0, 0)) rfl rfl ?_
  refine mEnds.stp 1 (pc' := 5) (l' := [some (.ref 10), some (.int x1), some (.int x2), none, none, none, none, none, none]) (st' := [.int x1, .ref 11]) (fun _ => rfl) ?_
  obtain ⟨v1, hv1, hf⟩ := ob hf
  refine t_cv (as := [.int x1]) (st := []) (rfl : mfetch 94 5 = some (5, .invokevirtual 141, 3, 9, 0, 0)) rfl rfl rfl rfl rfl ((ok_H_hasWall isH_11 hv1).deep 5) ?_
  by_cases hc1 : v1 = 0
  · rw [if_pos hc1] at hf
    refine t_jT (t := 20) (rfl : mfetch 94 8 = some (8, .ifCond .eq 12, 3, 0, 0, 0)) rfl (k_eq hc1) ?_
    refine mEnds.stp 1 (pc' := 21) (l' := [some (.ref 10), some (.int x1), some (.int x2), none, none, none, none, none, none]) (st' := [.int (-1)]) (fun _ => rfl) ?_
    exact mEnds.rti (Option.some.inj hf) (fun _ => rfl)
  · rw [if_neg hc1] at hf
    refine t_jF (rfl : mfetch 94 8 = some (8, .ifCond .eq 12, 3, 0, 0, 0)) (k_eq' hc1) ?_
    refine mEnds.stp 3 (pc' := 14) (l' := [some (.ref 10), some (.int x1), some (.int x2), none, none, none, none, none, none]) (st' := [.int (nI 1), .int (nI 0), .int x2]) (fun _ => rfl) ?_
    obtain ⟨v2, hv2, hf⟩ := ob hf
    refine t_cs (as := [.int x2, .int (nI 0), .int (nI 1)]) (st := []) (Or.inl rfl) (rfl : mfetch 94 14 = some (14, .invokestatic 48, 3, 105, 0, 0)) rfl rfl rfl ((ok_C_within hv2).deep 5) ?_
    by_cases hc2 : v2 = 0
    · rw [if_pos hc2] at hf
      refine t_jF (rfl : mfetch 94 17 = some (17, .ifCond .ne 5, 3, 0, 0, 0)) (k_ne' hc2) ?_
      refine mEnds.stp 1 (pc' := 21) (l' := [some (.ref 10), some (.int x1), some (.int x2), none, none, none, none, none, none]) (st' := [.int (-1)]) (fun _ => rfl) ?_
      exact mEnds.rti (Option.some.inj hf) (fun _ => rfl)
    · rw [if_neg hc2] at hf
      refine t_jT (t := 22) (rfl : mfetch 94 17 = some (17, .ifCond .ne 5, 3, 0, 0, 0)) rfl (k_ne hc2) ?_
      refine mEnds.stp 4 (pc' := 26) (l' := [some (.ref 10), some (.int x1), some (.int x2), none, none, none, none, none, none]) (st' := [.int x1, .ref 10, .int x1, .ref 10]) (fun _ => rfl) ?_
      obtain ⟨v3, hv3, hf⟩ := ob hf
      refine t_cv (as := [.int x1]) (st := [.int x1, .ref 10]) (rfl : mfetch 94 26 = some (26, .invokevirtual 239, 3, 93, 0, 0)) rfl rfl rfl rfl rfl (ok_C_leaksAsFelt hv3) ?_
      obtain ⟨v4, hv4, hf⟩ := ob hf
      refine t_cv (as := [.int x1, .int v3.1]) (st := []) (rfl : mfetch 94 29 = some (29, .invokevirtual 242, 3, 95, 0, 0)) rfl rfl rfl rfl rfl ((ok_C_layOutTrials hv4).deep 4) ?_
      refine mEnds.stp 7 (pc' := 43) (l' := [some (.ref 10), some (.int x1), some (.int x2), some (.int v4.1), some (.int (-4)), some (.int v4.1), some (.int (nI 0)), none, none]) (st' := []) (fun _ => rfl) ?_
      refine mEnds.cut (l := [some (.ref 10), none, some (.int x2), some (.int v4.1), some (.int (-4)), some (.int v4.1), some (.int (nI 0)), none, none]) ⟨rfl, ⟨rfl, ⟨rfl, ⟨rfl, ⟨rfl, ⟨rfl, trivial⟩⟩⟩⟩⟩⟩ ?_
      exact ok_C_ask_43 FU (-4) v4.1 (nI 0) v4.2 _ hf
def C_drift_46 (x2 : Int32) (x3 : Int32) : Nat → Int32 → Int32 → sg → Option (Int32 × sg)
  | 0, _, _, _ => none
  | fu + 1, x5, x6, s =>
  if x6 < x2 then
    (H_passHourBy 53 ((((((x5 * (nI 1103515245)) + (nI 12345)).toUInt32 >>> ((nI 16).toUInt32 &&& Int32.toUInt32 31)).toInt32) &&& (nI 32767)) - (((((x5 * (nI 1103515245)) + (nI 12345)).toUInt32 >>> ((nI 16).toUInt32 &&& Int32.toUInt32 31)).toInt32) &&& (nI 32767)) / (nI 40) * (nI 40)) (nI 0) s).bind fun s1 =>
    C_drift_46 x2 x3 fu ((x5 * (nI 1103515245)) + (nI 12345)) (x6 + (nI 1)) s1
  else
    if x3 = 0 then
      some ((s 53 3) - (s 11 3), s)
    else
      (H_warmthOfAll 53 s).bind fun v1 =>
      some (v1, s)
set_option maxRecDepth 100000 in
theorem ok_C_drift_46 {x2 : Int32} {x3 : Int32} : ∀ (fu : Nat) (x5 : Int32) (x6 : Int32) (s : sg) (rv : (Int32 × sg)), C_drift_46 x2 x3 fu x5 x6 s = some rv → mEnds [] 3 97 (46, [some (.ref 10), none, some (.int x2), some (.int x3), some (.ref 53), some (.int x5), some (.int x6)], [], hp shC s, 0, 0) (some (.int rv.1), hp shC rv.2, 0, 0)
  | 0, _, _, _, _, hf => by cases hf
  | fu + 1, x5, x6, s, rv, hf => by
    rw [C_drift_46] at hf
    refine mEnds.stp 2 (pc' := 49) (l' := [some (.ref 10), none, some (.int x2), some (.int x3), some (.ref 53), some (.int x5), some (.int x6)]) (st' := [.int x2, .int x6]) (fun _ => rfl) ?_
    by_cases hc1 : x6 < x2
    · rw [if_pos hc1] at hf
      refine t_cF (rfl : mfetch 97 49 = some (49, .if_icmp .ge 38, 3, 0, 0, 0)) (k_ge' hc1) ?_
      refine mEnds.stp 15 (pc' := 78) (l' := [some (.ref 10), none, some (.int x2), some (.int x3), some (.ref 53), some (.int ((x5 * (nI 1103515245)) + (nI 12345))), some (.int x6)]) (st' := [.int (nI 0), .int ((((((x5 * (nI 1103515245)) + (nI 12345)).toUInt32 >>> ((nI 16).toUInt32 &&& Int32.toUInt32 31)).toInt32) &&& (nI 32767)) - (((((x5 * (nI 1103515245)) + (nI 12345)).toUInt32 >>> ((nI 16).toUInt32 &&& Int32.toUInt32 31)).toInt32) &&& (nI 32767)) / (nI 40) * (nI 40)), .ref 53]) (fun _ => rfl) ?_
      obtain ⟨s1, hs1, hf⟩ := ob hf
      refine t_cv (as := [.int ((((((x5 * (nI 1103515245)) + (nI 12345)).toUInt32 >>> ((nI 16).toUInt32 &&& Int32.toUInt32 31)).toInt32) &&& (nI 32767)) - (((((x5 * (nI 1103515245)) + (nI 12345)).toUInt32 >>> ((nI 16).toUInt32 &&& Int32.toUInt32 31)).toInt32) &&& (nI 32767)) / (nI 40) * (nI 40)), .int (nI 0)]) (st := []) (rfl : mfetch 97 78 = some (78, .invokevirtual 221, 3, 24, 0, 0)) rfl rfl rfl rfl rfl (ok_H_passHourBy isH_53 hs1) ?_
      refine mEnds.stp 2 (pc' := 46) (l' := [some (.ref 10), none, some (.int x2), some (.int x3), some (.ref 53), some (.int ((x5 * (nI 1103515245)) + (nI 12345))), some (.int (x6 + (nI 1)))]) (st' := []) (fun _ => rfl) ?_
      refine mEnds.cut (l := [some (.ref 10), none, some (.int x2), some (.int x3), some (.ref 53), some (.int ((x5 * (nI 1103515245)) + (nI 12345))), some (.int (x6 + (nI 1)))]) ⟨rfl, ⟨rfl, ⟨rfl, ⟨rfl, ⟨rfl, ⟨rfl, trivial⟩⟩⟩⟩⟩⟩ ?_
      exact ok_C_drift_46 fu ((x5 * (nI 1103515245)) + (nI 12345)) (x6 + (nI 1)) s1 _ hf
    · rw [if_neg hc1] at hf
      refine t_cT (t := 87) (rfl : mfetch 97 49 = some (49, .if_icmp .ge 38, 3, 0, 0, 0)) rfl (k_ge hc1) ?_
      refine mEnds.stp 1 (pc' := 88) (l' := [some (.ref 10), none, some (.int x2), some (.int x3), some (.ref 53), some (.int x5), some (.int x6)]) (st' := [.int x3]) (fun _ => rfl) ?_
      by_cases hc2 : x3 = 0
      · rw [if_pos hc2] at hf
        refine t_jF (rfl : mfetch 97 88 = some (88, .ifCond .ne 19, 3, 0, 0, 0)) (k_ne' hc2) ?_
        refine mEnds.stp 1 (pc' := 93) (l' := [some (.ref 10), none, some (.int x2), some (.int x3), some (.ref 53), some (.int x5), some (.int x6)]) (st' := [.ref 53]) (fun _ => rfl) ?_
        refine t_gi (rfl : mfetch 97 93 = some (93, .getfield 89, 3, 1, 3, 0)) rfl rfl ?_
        refine mEnds.stp 1 (pc' := 97) (l' := [some (.ref 10), none, some (.int x2), some (.int x3), some (.ref 53), some (.int x5), some (.int x6)]) (st' := [.ref 10, .int (s 53 3)]) (fun _ => rfl) ?_
        refine t_gr (rfl : mfetch 97 97 = some (97, .getfield 10, 3, 4, 0, 0)) rfl rfl ?_
        refine t_gi (rfl : mfetch 97 100 = some (100, .getfield 89, 3, 1, 3, 0)) rfl rfl ?_
        refine mEnds.stp 2 (pc' := 112) (l' := [some (.ref 10), none, some (.int x2), some (.int x3), some (.ref 53), some (.int x5), some (.int x6)]) (st' := [.int ((s 53 3) - (s 11 3))]) (fun _ => rfl) ?_
        exact mEnds.rti (Option.some.inj hf) (fun _ => rfl)
      · rw [if_neg hc2] at hf
        refine t_jT (t := 107) (rfl : mfetch 97 88 = some (88, .ifCond .ne 19, 3, 0, 0, 0)) rfl (k_ne hc2) ?_
        refine mEnds.stp 1 (pc' := 109) (l' := [some (.ref 10), none, some (.int x2), some (.int x3), some (.ref 53), some (.int x5), some (.int x6)]) (st' := [.ref 53]) (fun _ => rfl) ?_
        obtain ⟨v1, hv1, hf⟩ := ob hf
        refine t_cv (as := []) (st := []) (rfl : mfetch 97 109 = some (109, .invokevirtual 95, 3, 15, 0, 0)) rfl rfl rfl rfl rfl ((ok_H_warmthOfAll isH_53 hv1).deep 1) ?_
        exact mEnds.rti (Option.some.inj hf) (fun _ => rfl)
def C_drift (x1 : Int32) (x2 : Int32) (x3 : Int32) (s : sg) : Option (Int32 × sg) :=
  (C_within x2 (nI 1) (nI 60) s).bind fun v1 =>
  if v1 = 0 then
    some ((-1), s)
  else
    (C_within x3 (nI 0) (nI 1) s).bind fun v2 =>
    if v2 = 0 then
      some ((-1), s)
    else
      if s 11 0 = 0 then
        some ((-2), s)
      else
        (C_copyOfNow s).bind fun s1 =>
        C_drift_46 x2 x3 FU x1 (nI 0) s1
set_option maxRecDepth 100000 in
theorem ok_C_drift {x1 : Int32} {x2 : Int32} {x3 : Int32} {s : sg} {rv : (Int32 × sg)} (hf : C_drift x1 x2 x3 s = some rv) : mEnds [] 3 97 (0, [some (.ref 10), some (.int x1), some (.int x2), some (.int x3), none, none, none], [], hp shC s, 0, 0) (some (.int rv.1), hp shC rv.2, 0, 0) := by
  unfold C_drift at hf
  refine mEnds.stp 3 (pc' := 4) (l' := [some (.ref 10), some (.int x1), some (.int x2), some (.int x3), none, none, none]) (st' := [.int (nI 60), .int (nI 1), .int x2]) (fun _ => rfl) ?_
  obtain ⟨v1, hv1, hf⟩ := ob hf
  refine t_cs (as := [.int x2, .int (nI 1), .int (nI 60)]) (st := []) (Or.inl rfl) (rfl : mfetch 97 4 = some (4, .invokestatic 48, 3, 105, 0, 0)) rfl rfl rfl ((ok_C_within hv1).deep 2) ?_
  by_cases hc1 : v1 = 0
  · rw [if_pos hc1] at hf
    refine t_jT (t := 19) (rfl : mfetch 97 7 = some (7, .ifCond .eq 12, 3, 0, 0, 0)) rfl (k_eq hc1) ?_
    refine mEnds.stp 1 (pc' := 20) (l' := [some (.ref 10), some (.int x1), some (.int x2), some (.int x3), none, none, none]) (st' := [.int (-1)]) (fun _ => rfl) ?_
    exact mEnds.rti (Option.some.inj hf) (fun _ => rfl)
  · rw [if_neg hc1] at hf
    refine t_jF (rfl : mfetch 97 7 = some (7, .ifCond .eq 12, 3, 0, 0, 0)) (k_eq' hc1) ?_
    refine mEnds.stp 3 (pc' := 13) (l' := [some (.ref 10), some (.int x1), some (.int x2), some (.int x3), none, none, none]) (st' := [.int (nI 1), .int (nI 0), .int x3]) (fun _ => rfl) ?_
    obtain ⟨v2, hv2, hf⟩ := ob hf
    refine t_cs (as := [.int x3, .int (nI 0), .int (nI 1)]) (st := []) (Or.inl rfl) (rfl : mfetch 97 13 = some (13, .invokestatic 48, 3, 105, 0, 0)) rfl rfl rfl ((ok_C_within hv2).deep 2) ?_
    by_cases hc2 : v2 = 0
    · rw [if_pos hc2] at hf
      refine t_jF (rfl : mfetch 97 16 = some (16, .ifCond .ne 5, 3, 0, 0, 0)) (k_ne' hc2) ?_
      refine mEnds.stp 1 (pc' := 20) (l' := [some (.ref 10), some (.int x1), some (.int x2), some (.int x3), none, none, none]) (st' := [.int (-1)]) (fun _ => rfl) ?_
      exact mEnds.rti (Option.some.inj hf) (fun _ => rfl)
    · rw [if_neg hc2] at hf
      refine t_jT (t := 21) (rfl : mfetch 97 16 = some (16, .ifCond .ne 5, 3, 0, 0, 0)) rfl (k_ne hc2) ?_
      refine mEnds.stp 1 (pc' := 22) (l' := [some (.ref 10), some (.int x1), some (.int x2), some (.int x3), none, none, none]) (st' := [.ref 10]) (fun _ => rfl) ?_
      refine t_gr (rfl : mfetch 97 22 = some (22, .getfield 10, 3, 4, 0, 0)) rfl rfl ?_
      refine t_gi (rfl : mfetch 97 25 = some (25, .getfield 83, 3, 1, 0, 0)) rfl rfl ?_
      by_cases hc3 : s 11 0 = 0
      · rw [if_pos hc3] at hf
        refine t_jF (rfl : mfetch 97 28 = some (28, .ifCond .ne 6, 3, 0, 0, 0)) (k_ne' hc3) ?_
        refine mEnds.stp 1 (pc' := 33) (l' := [some (.ref 10), some (.int x1), some (.int x2), some (.int x3), none, none, none]) (st' := [.int (-2)]) (fun _ => rfl) ?_
        exact mEnds.rti (Option.some.inj hf) (fun _ => rfl)
      · rw [if_neg hc3] at hf
        refine t_jT (t := 34) (rfl : mfetch 97 28 = some (28, .ifCond .ne 6, 3, 0, 0, 0)) rfl (k_ne hc3) ?_
        refine mEnds.stp 1 (pc' := 35) (l' := [some (.ref 10), some (.int x1), some (.int x2), some (.int x3), none, none, none]) (st' := [.ref 10]) (fun _ => rfl) ?_
        obtain ⟨s1, hs1, hf⟩ := ob hf
        refine t_cv (as := []) (st := []) (rfl : mfetch 97 35 = some (35, .invokevirtual 167, 3, 109, 0, 0)) rfl rfl rfl rfl rfl ((ok_C_copyOfNow hs1).deep 1) ?_
        refine mEnds.stp 5 (pc' := 46) (l' := [some (.ref 10), some (.int x1), some (.int x2), some (.int x3), some (.ref 53), some (.int x1), some (.int (nI 0))]) (st' := []) (fun _ => rfl) ?_
        refine mEnds.cut (l := [some (.ref 10), none, some (.int x2), some (.int x3), some (.ref 53), some (.int x1), some (.int (nI 0))]) ⟨rfl, ⟨rfl, ⟨rfl, ⟨rfl, ⟨rfl, ⟨rfl, trivial⟩⟩⟩⟩⟩⟩ ?_
        exact ok_C_drift_46 FU x1 (nI 0) s1 _ hf
def C_keep_25 (x1 : Int32) (y0 : Int32) (s : sg) : Option (Int32 × sg) :=
  (midx x1 2).bind fun j1 =>
  (H_copyFrom (37 + 8 * j1) 11 s).bind fun s1 =>
  (midx x1 2).bind fun j2 =>
  (some (up s1 20 j2 (vp_nar .boolean (nI 1)))).bind fun s2 =>
  some (y0, s2)
set_option maxRecDepth 100000 in
theorem ok_C_keep_25 {x1 : Int32} {y0 : Int32} {s : sg} {rv : (Int32 × sg)} (hf : C_keep_25 x1 y0 s = some rv) : mEnds [] 1 98 (25, [some (.ref 10), some (.int x1), none], [.int y0], hp shC s, 0, 0) (some (.int rv.1), hp shC rv.2, 0, 0) := by
  unfold C_keep_25 at hf
  refine mEnds.stp 2 (pc' := 27) (l' := [some (.ref 10), some (.int x1), some (.int y0)]) (st' := [.ref 10]) (fun _ => rfl) ?_
  refine t_gr (rfl : mfetch 98 27 = some (27, .getfield 16, 3, 4, 1, 0)) rfl rfl ?_
  refine mEnds.stp 1 (pc' := 31) (l' := [some (.ref 10), some (.int x1), some (.int y0)]) (st' := [.int x1, .ref 19]) (fun _ => rfl) ?_
  obtain ⟨j1, hj1, hf⟩ := ob hf
  refine t_aa (rfl : mfetch 98 31 = some (31, .aaload, 1, 0, 0, 0)) rfl rfl rfl hj1 (el_im (mi_lt hj1)) ?_
  refine mEnds.stp 1 (pc' := 33) (l' := [some (.ref 10), some (.int x1), some (.int y0)]) (st' := [.ref 10, .ref (37 + 8 * j1)]) (fun _ => rfl) ?_
  refine t_gr (rfl : mfetch 98 33 = some (33, .getfield 10, 3, 4, 0, 0)) rfl rfl ?_
  obtain ⟨s1, hs1, hf⟩ := ob hf
  refine t_cv (as := [.ref 11]) (st := []) (rfl : mfetch 98 36 = some (36, .invokevirtual 70, 3, 7, 0, 0)) (isH_im (mi_lt hj1)).1 rfl rfl rfl rfl (ok_H_copyFrom (isH_im (mi_lt hj1)) isH_11 hs1) ?_
  refine mEnds.stp 1 (pc' := 40) (l' := [some (.ref 10), some (.int x1), some (.int y0)]) (st' := [.ref 10]) (fun _ => rfl) ?_
  refine t_gr (rfl : mfetch 98 40 = some (40, .getfield 20, 3, 4, 2, 0)) rfl rfl ?_
  refine mEnds.stp 2 (pc' := 45) (l' := [some (.ref 10), some (.int x1), some (.int y0)]) (st' := [.int (nI 1), .int x1, .ref 20]) (fun _ => rfl) ?_
  obtain ⟨j2, hj2, hf⟩ := ob hf
  obtain ⟨s2, hs2, hf⟩ := ob hf
  refine t_zs (rfl : mfetch 98 45 = some (45, .bastore, 1, 0, 0, 0)) rfl rfl hj2 hs2 ?_
  refine mEnds.stp 1 (pc' := 47) (l' := [some (.ref 10), some (.int x1), some (.int y0)]) (st' := [.int y0]) (fun _ => rfl) ?_
  exact mEnds.rti (Option.some.inj hf) (fun _ => rfl)
def C_keep (x1 : Int32) (s : sg) : Option (Int32 × sg) :=
  (C_within x1 (nI 0) (nI 1) s).bind fun v1 =>
  if v1 = 0 then
    some ((-1), s)
  else
    (midx x1 2).bind fun j1 =>
    if s 20 j1 = 0 then
      C_keep_25 x1 (nI 0) s
    else
      C_keep_25 x1 (nI 1) s
set_option maxRecDepth 100000 in
theorem ok_C_keep {x1 : Int32} {s : sg} {rv : (Int32 × sg)} (hf : C_keep x1 s = some rv) : mEnds [] 1 98 (0, [some (.ref 10), some (.int x1), none], [], hp shC s, 0, 0) (some (.int rv.1), hp shC rv.2, 0, 0) := by
  unfold C_keep at hf
  refine mEnds.stp 3 (pc' := 3) (l' := [some (.ref 10), some (.int x1), none]) (st' := [.int (nI 1), .int (nI 0), .int x1]) (fun _ => rfl) ?_
  obtain ⟨v1, hv1, hf⟩ := ob hf
  refine t_cs (as := [.int x1, .int (nI 0), .int (nI 1)]) (st := []) (Or.inl rfl) (rfl : mfetch 98 3 = some (3, .invokestatic 48, 3, 105, 0, 0)) rfl rfl rfl (ok_C_within hv1) ?_
  by_cases hc1 : v1 = 0
  · rw [if_pos hc1] at hf
    refine t_jF (rfl : mfetch 98 6 = some (6, .ifCond .ne 5, 3, 0, 0, 0)) (k_ne' hc1) ?_
    refine mEnds.stp 1 (pc' := 10) (l' := [some (.ref 10), some (.int x1), none]) (st' := [.int (-1)]) (fun _ => rfl) ?_
    exact mEnds.rti (Option.some.inj hf) (fun _ => rfl)
  · rw [if_neg hc1] at hf
    refine t_jT (t := 11) (rfl : mfetch 98 6 = some (6, .ifCond .ne 5, 3, 0, 0, 0)) rfl (k_ne hc1) ?_
    refine mEnds.stp 1 (pc' := 12) (l' := [some (.ref 10), some (.int x1), none]) (st' := [.ref 10]) (fun _ => rfl) ?_
    refine t_gr (rfl : mfetch 98 12 = some (12, .getfield 20, 3, 4, 2, 0)) rfl rfl ?_
    refine mEnds.stp 1 (pc' := 16) (l' := [some (.ref 10), some (.int x1), none]) (st' := [.int x1, .ref 20]) (fun _ => rfl) ?_
    obtain ⟨j1, hj1, hf⟩ := ob hf
    refine t_ba (rfl : mfetch 98 16 = some (16, .baload, 1, 0, 0, 0)) rfl rfl rfl hj1 ?_
    by_cases hc2 : s 20 j1 = 0
    · rw [if_pos hc2] at hf
      refine t_jT (t := 24) (rfl : mfetch 98 17 = some (17, .ifCond .eq 7, 3, 0, 0, 0)) rfl (k_eq hc2) ?_
      refine mEnds.stp 1 (pc' := 25) (l' := [some (.ref 10), some (.int x1), none]) (st' := [.int (nI 0)]) (fun _ => rfl) ?_
      refine mEnds.cut (l := [some (.ref 10), some (.int x1), none]) ⟨rfl, ⟨rfl, trivial⟩⟩ ?_
      exact ok_C_keep_25 hf
    · rw [if_neg hc2] at hf
      refine t_jF (rfl : mfetch 98 17 = some (17, .ifCond .eq 7, 3, 0, 0, 0)) (k_eq' hc2) ?_
      refine mEnds.stp 2 (pc' := 25) (l' := [some (.ref 10), some (.int x1), none]) (st' := [.int (nI 1)]) (fun _ => rfl) ?_
      refine mEnds.cut (l := [some (.ref 10), some (.int x1), none]) ⟨rfl, ⟨rfl, trivial⟩⟩ ?_
      exact ok_C_keep_25 hf
def C_back (x1 : Int32) (s : sg) : Option (Int32 × sg) :=
  (C_within x1 (nI 0) (nI 1) s).bind fun v1 =>
  if v1 = 0 then
    some ((-1), s)
  else
    (midx x1 2).bind fun j1 =>
    if s 20 j1 = 0 then
      some ((-2), s)
    else
      (midx x1 2).bind fun j2 =>
      (H_copyFrom 11 (37 + 8 * j2) s).bind fun s1 =>
      some (s1 11 2, s1)
set_option maxRecDepth 100000 in
theorem ok_C_back {x1 : Int32} {s : sg} {rv : (Int32 × sg)} (hf : C_back x1 s = some rv) : mEnds [] 1 99 (0, [some (.ref 10), some (.int x1)], [], hp shC s, 0, 0) (some (.int rv.1), hp shC rv.2, 0, 0) := by
  unfold C_back at hf
  refine mEnds.stp 3 (pc' := 3) (l' := [some (.ref 10), some (.int x1)]) (st' := [.int (nI 1), .int (nI 0), .int x1]) (fun _ => rfl) ?_
  obtain ⟨v1, hv1, hf⟩ := ob hf
  refine t_cs (as := [.int x1, .int (nI 0), .int (nI 1)]) (st := []) (Or.inl rfl) (rfl : mfetch 99 3 = some (3, .invokestatic 48, 3, 105, 0, 0)) rfl rfl rfl (ok_C_within hv1) ?_
  by_cases hc1 : v1 = 0
  · rw [if_pos hc1] at hf
    refine t_jF (rfl : mfetch 99 6 = some (6, .ifCond .ne 5, 3, 0, 0, 0)) (k_ne' hc1) ?_
    refine mEnds.stp 1 (pc' := 10) (l' := [some (.ref 10), some (.int x1)]) (st' := [.int (-1)]) (fun _ => rfl) ?_
    exact mEnds.rti (Option.some.inj hf) (fun _ => rfl)
  · rw [if_neg hc1] at hf
    refine t_jT (t := 11) (rfl : mfetch 99 6 = some (6, .ifCond .ne 5, 3, 0, 0, 0)) rfl (k_ne hc1) ?_
    refine mEnds.stp 1 (pc' := 12) (l' := [some (.ref 10), some (.int x1)]) (st' := [.ref 10]) (fun _ => rfl) ?_
    refine t_gr (rfl : mfetch 99 12 = some (12, .getfield 20, 3, 4, 2, 0)) rfl rfl ?_
    refine mEnds.stp 1 (pc' := 16) (l' := [some (.ref 10), some (.int x1)]) (st' := [.int x1, .ref 20]) (fun _ => rfl) ?_
    obtain ⟨j1, hj1, hf⟩ := ob hf
    refine t_ba (rfl : mfetch 99 16 = some (16, .baload, 1, 0, 0, 0)) rfl rfl rfl hj1 ?_
    by_cases hc2 : s 20 j1 = 0
    · rw [if_pos hc2] at hf
      refine t_jF (rfl : mfetch 99 17 = some (17, .ifCond .ne 6, 3, 0, 0, 0)) (k_ne' hc2) ?_
      refine mEnds.stp 1 (pc' := 22) (l' := [some (.ref 10), some (.int x1)]) (st' := [.int (-2)]) (fun _ => rfl) ?_
      exact mEnds.rti (Option.some.inj hf) (fun _ => rfl)
    · rw [if_neg hc2] at hf
      refine t_jT (t := 23) (rfl : mfetch 99 17 = some (17, .ifCond .ne 6, 3, 0, 0, 0)) rfl (k_ne hc2) ?_
      refine mEnds.stp 1 (pc' := 24) (l' := [some (.ref 10), some (.int x1)]) (st' := [.ref 10]) (fun _ => rfl) ?_
      refine t_gr (rfl : mfetch 99 24 = some (24, .getfield 10, 3, 4, 0, 0)) rfl rfl ?_
      refine mEnds.stp 1 (pc' := 28) (l' := [some (.ref 10), some (.int x1)]) (st' := [.ref 10, .ref 11]) (fun _ => rfl) ?_
      refine t_gr (rfl : mfetch 99 28 = some (28, .getfield 16, 3, 4, 1, 0)) rfl rfl ?_
      refine mEnds.stp 1 (pc' := 32) (l' := [some (.ref 10), some (.int x1)]) (st' := [.int x1, .ref 19, .ref 11]) (fun _ => rfl) ?_
      obtain ⟨j2, hj2, hf⟩ := ob hf
      refine t_aa (rfl : mfetch 99 32 = some (32, .aaload, 1, 0, 0, 0)) rfl rfl rfl hj2 (el_im (mi_lt hj2)) ?_
      obtain ⟨s1, hs1, hf⟩ := ob hf
      refine t_cv (as := [.ref (37 + 8 * j2)]) (st := []) (rfl : mfetch 99 33 = some (33, .invokevirtual 70, 3, 7, 0, 0)) rfl rfl rfl rfl rfl (ok_H_copyFrom isH_11 (isH_im (mi_lt hj2)) hs1) ?_
      refine mEnds.stp 1 (pc' := 37) (l' := [some (.ref 10), some (.int x1)]) (st' := [.ref 10]) (fun _ => rfl) ?_
      refine t_gr (rfl : mfetch 99 37 = some (37, .getfield 10, 3, 4, 0, 0)) rfl rfl ?_
      refine t_gi (rfl : mfetch 99 40 = some (40, .getfield 86, 3, 1, 2, 0)) rfl rfl ?_
      exact mEnds.rti (Option.some.inj hf) (fun _ => rfl)
def C_sheet (x1 : Int32) (x2 : Int32) (x3 : Int32) (s : sg) : Option (Int32 × sg) :=
  (C_within x1 (nI 0) (nI 3) s).bind fun v1 =>
  if v1 = 0 then
    some ((-1), s)
  else
    (C_within x2 (nI 0) (nI 2) s).bind fun v2 =>
    if v2 = 0 then
      some ((-1), s)
    else
      if nI 40 < x3 then
        some ((-1), s)
      else
        if x3 < 0 then
          some ((-14), s)
        else
          (midx x1 4).bind fun j1 =>
          (S_renew (133 + 2 * j1) x2 x3 s).bind fun s1 =>
          some (nI 1, s1)
set_option maxRecDepth 100000 in
theorem ok_C_sheet {x1 : Int32} {x2 : Int32} {x3 : Int32} {s : sg} {rv : (Int32 × sg)} (hf : C_sheet x1 x2 x3 s = some rv) : mEnds [] 1 100 (0, [some (.ref 10), some (.int x1), some (.int x2), some (.int x3)], [], hp shC s, 0, 0) (some (.int rv.1), hp shC rv.2, 0, 0) := by
  unfold C_sheet at hf
  refine mEnds.stp 3 (pc' := 3) (l' := [some (.ref 10), some (.int x1), some (.int x2), some (.int x3)]) (st' := [.int (nI 3), .int (nI 0), .int x1]) (fun _ => rfl) ?_
  obtain ⟨v1, hv1, hf⟩ := ob hf
  refine t_cs (as := [.int x1, .int (nI 0), .int (nI 3)]) (st := []) (Or.inl rfl) (rfl : mfetch 100 3 = some (3, .invokestatic 48, 3, 105, 0, 0)) rfl rfl rfl (ok_C_within hv1) ?_
  by_cases hc1 : v1 = 0
  · rw [if_pos hc1] at hf
    refine t_jT (t := 24) (rfl : mfetch 100 6 = some (6, .ifCond .eq 18, 3, 0, 0, 0)) rfl (k_eq hc1) ?_
    refine mEnds.stp 1 (pc' := 25) (l' := [some (.ref 10), some (.int x1), some (.int x2), some (.int x3)]) (st' := [.int (-1)]) (fun _ => rfl) ?_
    exact mEnds.rti (Option.some.inj hf) (fun _ => rfl)
  · rw [if_neg hc1] at hf
    refine t_jF (rfl : mfetch 100 6 = some (6, .ifCond .eq 18, 3, 0, 0, 0)) (k_eq' hc1) ?_
    refine mEnds.stp 3 (pc' := 12) (l' := [some (.ref 10), some (.int x1), some (.int x2), some (.int x3)]) (st' := [.int (nI 2), .int (nI 0), .int x2]) (fun _ => rfl) ?_
    obtain ⟨v2, hv2, hf⟩ := ob hf
    refine t_cs (as := [.int x2, .int (nI 0), .int (nI 2)]) (st := []) (Or.inl rfl) (rfl : mfetch 100 12 = some (12, .invokestatic 48, 3, 105, 0, 0)) rfl rfl rfl (ok_C_within hv2) ?_
    by_cases hc2 : v2 = 0
    · rw [if_pos hc2] at hf
      refine t_jT (t := 24) (rfl : mfetch 100 15 = some (15, .ifCond .eq 9, 3, 0, 0, 0)) rfl (k_eq hc2) ?_
      refine mEnds.stp 1 (pc' := 25) (l' := [some (.ref 10), some (.int x1), some (.int x2), some (.int x3)]) (st' := [.int (-1)]) (fun _ => rfl) ?_
      exact mEnds.rti (Option.some.inj hf) (fun _ => rfl)
    · rw [if_neg hc2] at hf
      refine t_jF (rfl : mfetch 100 15 = some (15, .ifCond .eq 9, 3, 0, 0, 0)) (k_eq' hc2) ?_
      refine mEnds.stp 2 (pc' := 21) (l' := [some (.ref 10), some (.int x1), some (.int x2), some (.int x3)]) (st' := [.int (nI 40), .int x3]) (fun _ => rfl) ?_
      by_cases hc3 : nI 40 < x3
      · rw [if_pos hc3] at hf
        refine t_cF (rfl : mfetch 100 21 = some (21, .if_icmp .le 5, 3, 0, 0, 0)) (k_le' hc3) ?_
        refine mEnds.stp 1 (pc' := 25) (l' := [some (.ref 10), some (.int x1), some (.int x2), some (.int x3)]) (st' := [.int (-1)]) (fun _ => rfl) ?_
        exact mEnds.rti (Option.some.inj hf) (fun _ => rfl)
      · rw [if_neg hc3] at hf
        refine t_cT (t := 26) (rfl : mfetch 100 21 = some (21, .if_icmp .le 5, 3, 0, 0, 0)) rfl (k_le hc3) ?_
        refine mEnds.stp 1 (pc' := 27) (l' := [some (.ref 10), some (.int x1), some (.int x2), some (.int x3)]) (st' := [.int x3]) (fun _ => rfl) ?_
        by_cases hc4 : x3 < 0
        · rw [if_pos hc4] at hf
          refine t_jF (rfl : mfetch 100 27 = some (27, .ifCond .ge 6, 3, 0, 0, 0)) (k_ge' hc4) ?_
          refine mEnds.stp 1 (pc' := 32) (l' := [some (.ref 10), some (.int x1), some (.int x2), some (.int x3)]) (st' := [.int (-14)]) (fun _ => rfl) ?_
          exact mEnds.rti (Option.some.inj hf) (fun _ => rfl)
        · rw [if_neg hc4] at hf
          refine t_jT (t := 33) (rfl : mfetch 100 27 = some (27, .ifCond .ge 6, 3, 0, 0, 0)) rfl (k_ge hc4) ?_
          refine mEnds.stp 1 (pc' := 34) (l' := [some (.ref 10), some (.int x1), some (.int x2), some (.int x3)]) (st' := [.ref 10]) (fun _ => rfl) ?_
          refine t_gr (rfl : mfetch 100 34 = some (34, .getfield 29, 3, 4, 4, 0)) rfl rfl ?_
          refine mEnds.stp 1 (pc' := 38) (l' := [some (.ref 10), some (.int x1), some (.int x2), some (.int x3)]) (st' := [.int x1, .ref 22]) (fun _ => rfl) ?_
          obtain ⟨j1, hj1, hf⟩ := ob hf
          refine t_aa (rfl : mfetch 100 38 = some (38, .aaload, 1, 0, 0, 0)) rfl rfl rfl hj1 (el_sh (mi_lt hj1)) ?_
          refine mEnds.stp 2 (pc' := 41) (l' := [some (.ref 10), some (.int x1), some (.int x2), some (.int x3)]) (st' := [.int x3, .int x2, .ref (133 + 2 * j1)]) (fun _ => rfl) ?_
          obtain ⟨s1, hs1, hf⟩ := ob hf
          refine t_cv (as := [.int x2, .int x3]) (st := []) (rfl : mfetch 100 41 = some (41, .invokevirtual 251, 3, 31, 0, 0)) (isS_at (mi_lt hj1)).1 rfl rfl rfl rfl (ok_S_renew (isS_at (mi_lt hj1)) hs1) ?_
          refine mEnds.stp 1 (pc' := 45) (l' := [some (.ref 10), some (.int x1), some (.int x2), some (.int x3)]) (st' := [.int (nI 1)]) (fun _ => rfl) ?_
          exact mEnds.rti (Option.some.inj hf) (fun _ => rfl)
