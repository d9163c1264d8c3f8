def T_tellOut_67 (k27 : Int32 → sg → Option sg) (x1 : Int32) (s : sg) : Option sg :=
  (T_nextToken s).bind fun s1 =>
  k27 x1 s1
set_option maxRecDepth 100000 in
theorem ok_T_tellOut_67 {k27 : Int32 → sg → Option sg} {x1 : Int32} {s : sg} {rv : sg} (hk27 : ∀ (x1 : Int32) (s : sg) (rv : sg), k27 x1 s = some rv → mEnds [] 2 45 (27, [some (.ref 27), some (.int x1)], [], hp shC s, 0, 0) (none, hp shC rv, 0, 0)) (hf : T_tellOut_67 k27 x1 s = some rv) : mEnds [] 2 45 (67, [some (.ref 27), some (.int x1)], [], hp shC s, 0, 0) (none, hp shC rv, 0, 0) := by
  unfold T_tellOut_67 at hf
  refine mEnds.stp 1 (pc' := 68) (l' := [some (.ref 27), some (.int x1)]) (st' := [.ref 27]) (fun _ => rfl) ?_
  obtain ⟨s1, hs1, hf⟩ := ob hf
  refine t_cv (as := []) (st := []) (rfl : mfetch 45 68 = some (68, .invokevirtual 48, 3, 50, 0, 0)) rfl rfl rfl rfl rfl (ok_T_nextToken hs1) ?_
  refine mEnds.stp 1 (pc' := 27) (l' := [some (.ref 27), some (.int x1)]) (st' := []) (fun _ => rfl) ?_
  refine mEnds.cut (l := [some (.ref 27), some (.int x1)]) ⟨rfl, ⟨rfl, trivial⟩⟩ ?_
  exact hk27 x1 s1 _ hf
def T_tellOut_74 (s : sg) : Option sg :=
  if s 27 6 = nI 3 then
    some s
  else
    (T_fail (nI 2) (s 27 7) s).bind fun s1 =>
    some s1
set_option maxRecDepth 100000 in
theorem ok_T_tellOut_74 {s : sg} {rv : sg} (hf : T_tellOut_74 s = some rv) : mEnds [] 2 45 (74, [some (.ref 27), none], [], hp shC s, 0, 0) (none, hp shC rv, 0, 0) := by
  unfold T_tellOut_74 at hf
  refine mEnds.stp 1 (pc' := 75) (l' := [some (.ref 27), none]) (st' := [.ref 27]) (fun _ => rfl) ?_
  refine t_gi (rfl : mfetch 45 75 = some (75, .getfield 51, 3, 3, 6, 0)) rfl rfl ?_
  refine mEnds.stp 1 (pc' := 79) (l' := [some (.ref 27), none]) (st' := [.int (nI 3), .int (s 27 6)]) (fun _ => rfl) ?_
  by_cases hc1 : s 27 6 = nI 3
  · rw [if_pos hc1] at hf
    refine t_cT (t := 91) (rfl : mfetch 45 79 = some (79, .if_icmp .eq 12, 3, 0, 0, 0)) rfl (k_eq hc1) ?_
    cases hf; exact mEnds.rt (fun _ => rfl)
  · rw [if_neg hc1] at hf
    refine t_cF (rfl : mfetch 45 79 = some (79, .if_icmp .eq 12, 3, 0, 0, 0)) (k_eq' hc1) ?_
    refine mEnds.stp 3 (pc' := 85) (l' := [some (.ref 27), none]) (st' := [.ref 27, .int (nI 2), .ref 27]) (fun _ => rfl) ?_
    refine t_gi (rfl : mfetch 45 85 = some (85, .getfield 64, 3, 3, 7, 0)) rfl rfl ?_
    obtain ⟨s1, hs1, hf⟩ := ob hf
    refine t_cv (as := [.int (nI 2), .int (s 27 7)]) (st := []) (rfl : mfetch 45 88 = some (88, .invokevirtual 67, 3, 38, 0, 0)) rfl rfl rfl rfl rfl ((ok_T_fail hs1).deep 1) ?_
    cases hf; exact mEnds.rt (fun _ => rfl)
def T_tellOut_27 : Nat → Int32 → sg → Option sg
  | 0, _, _ => none
  | fu + 1, x1, s =>
  if x1 < nI 8 then
    if s 27 6 = nI 2 then
      (T_tokenValue s).bind fun v1 =>
      (midx x1 8).bind fun j1 =>
      (some (up s 36 j1 v1)).bind fun s1 =>
      if x1 + (nI 1) = nI 8 then
        (T_refuseNinth s1).bind fun s2 =>
        T_tellOut_67 (T_tellOut_27 fu) (x1 + (nI 1)) s2
      else
        T_tellOut_67 (T_tellOut_27 fu) (x1 + (nI 1)) s1
    else
      T_tellOut_74 s
  else
    T_tellOut_74 s
set_option maxRecDepth 100000 in
theorem ok_T_tellOut_27 : ∀ (fu : Nat) (x1 : Int32) (s : sg) (rv : sg), T_tellOut_27 fu x1 s = some rv → mEnds [] 2 45 (27, [some (.ref 27), some (.int x1)], [], hp shC s, 0, 0) (none, hp shC rv, 0, 0)
  | 0, _, _, _, hf => by cases hf
  | fu + 1, x1, s, rv, hf => by
    rw [T_tellOut_27] at hf
    refine mEnds.stp 2 (pc' := 30) (l' := [some (.ref 27), some (.int x1)]) (st' := [.int (nI 8), .int x1]) (fun _ => rfl) ?_
    by_cases hc1 : x1 < nI 8
    · rw [if_pos hc1] at hf
      refine t_cF (rfl : mfetch 45 30 = some (30, .if_icmp .ge 44, 3, 0, 0, 0)) (k_ge' hc1) ?_
      refine mEnds.stp 1 (pc' := 34) (l' := [some (.ref 27), some (.int x1)]) (st' := [.ref 27]) (fun _ => rfl) ?_
      refine t_gi (rfl : mfetch 45 34 = some (34, .getfield 51, 3, 3, 6, 0)) rfl rfl ?_
      refine mEnds.stp 1 (pc' := 38) (l' := [some (.ref 27), some (.int x1)]) (st' := [.int (nI 2), .int (s 27 6)]) (fun _ => rfl) ?_
      by_cases hc2 : s 27 6 = nI 2
      · rw [if_pos hc2] at hf
        refine t_cF (rfl : mfetch 45 38 = some (38, .if_icmp .ne 36, 3, 0, 0, 0)) (k_ne' hc2) ?_
        refine mEnds.stp 1 (pc' := 42) (l' := [some (.ref 27), some (.int x1)]) (st' := [.ref 27]) (fun _ => rfl) ?_
        refine t_gr (rfl : mfetch 45 42 = some (42, .getfield 18, 3, 3, 2, 0)) rfl rfl ?_
        refine t_gr (rfl : mfetch 45 45 = some (45, .getfield 143, 3, 1, 11, 0)) rfl rfl ?_
        refine mEnds.stp 2 (pc' := 50) (l' := [some (.ref 27), some (.int x1)]) (st' := [.ref 27, .int x1, .ref 36]) (fun _ => rfl) ?_
        obtain ⟨v1, hv1, hf⟩ := ob hf
        refine t_cv (as := []) (st := [.int x1, .ref 36]) (rfl : mfetch 45 50 = some (50, .invokevirtual 146, 3, 49, 0, 0)) rfl rfl rfl rfl rfl ((ok_T_tokenValue hv1).deep 1) ?_
        obtain ⟨j1, hj1, hf⟩ := ob hf
        obtain ⟨s1, hs1, hf⟩ := ob hf
        refine t_is (rfl : mfetch 45 53 = some (53, .iastore, 1, 0, 0, 0)) rfl rfl hj1 hs1 ?_
        refine mEnds.stp 3 (pc' := 60) (l' := [some (.ref 27), some (.int (x1 + (nI 1)))]) (st' := [.int (nI 8), .int (x1 + (nI 1))]) (fun _ => rfl) ?_
        by_cases hc3 : x1 + (nI 1) = nI 8
        · rw [if_pos hc3] at hf
          refine t_cF (rfl : mfetch 45 60 = some (60, .if_icmp .ne 7, 3, 0, 0, 0)) (k_ne' hc3) ?_
          refine mEnds.stp 1 (pc' := 64) (l' := [some (.ref 27), some (.int (x1 + (nI 1)))]) (st' := [.ref 27]) (fun _ => rfl) ?_
          obtain ⟨s2, hs2, hf⟩ := ob hf
          refine t_cv (as := []) (st := []) (rfl : mfetch 45 64 = some (64, .invokevirtual 149, 3, 46, 0, 0)) rfl rfl rfl rfl rfl (ok_T_refuseNinth hs2) ?_
          refine mEnds.cut (l := [some (.ref 27), some (.int (x1 + (nI 1)))]) ⟨rfl, ⟨rfl, trivial⟩⟩ ?_
          exact ok_T_tellOut_67 (ok_T_tellOut_27 fu) hf
        · rw [if_neg hc3] at hf
          refine t_cT (t := 67) (rfl : mfetch 45 60 = some (60, .if_icmp .ne 7, 3, 0, 0, 0)) rfl (k_ne hc3) ?_
          refine mEnds.cut (l := [some (.ref 27), some (.int (x1 + (nI 1)))]) ⟨rfl, ⟨rfl, trivial⟩⟩ ?_
          exact ok_T_tellOut_67 (ok_T_tellOut_27 fu) hf
      · rw [if_neg hc2] at hf
        refine t_cT (t := 74) (rfl : mfetch 45 38 = some (38, .if_icmp .ne 36, 3, 0, 0, 0)) rfl (k_ne hc2) ?_
        refine mEnds.cut (l := [some (.ref 27), none]) ⟨rfl, trivial⟩ ?_
        exact ok_T_tellOut_74 hf
    · rw [if_neg hc1] at hf
      refine t_cT (t := 74) (rfl : mfetch 45 30 = some (30, .if_icmp .ge 44, 3, 0, 0, 0)) rfl (k_ge hc1) ?_
      refine mEnds.cut (l := [some (.ref 27), none]) ⟨rfl, trivial⟩ ?_
      exact ok_T_tellOut_74 hf
def T_tellOut_16 (s : sg) : Option sg :=
  (some (up s 27 9 (nI 1))).bind fun s1 =>
  (T_nextToken s1).bind fun s2 =>
  T_tellOut_27 FU (nI 0) s2
set_option maxRecDepth 100000 in
theorem ok_T_tellOut_16 {s : sg} {rv : sg} (hf : T_tellOut_16 s = some rv) : mEnds [] 2 45 (16, [some (.ref 27), none], [], hp shC s, 0, 0) (none, hp shC rv, 0, 0) := by
  unfold T_tellOut_16 at hf
  refine mEnds.stp 2 (pc' := 18) (l' := [some (.ref 27), none]) (st' := [.int (nI 1), .ref 27]) (fun _ => rfl) ?_
  obtain ⟨s1, hs1, hf⟩ := ob hf
  refine t_pi (rfl : mfetch 45 18 = some (18, .putfield 41, 3, 3, 9, 0)) rfl rfl rfl rfl hs1 ?_
  refine mEnds.stp 3 (pc' := 24) (l' := [some (.ref 27), some (.int (nI 0))]) (st' := [.ref 27]) (fun _ => rfl) ?_
  obtain ⟨s2, hs2, hf⟩ := ob hf
  refine t_cv (as := []) (st := []) (rfl : mfetch 45 24 = some (24, .invokevirtual 48, 3, 50, 0, 0)) rfl rfl rfl rfl rfl (ok_T_nextToken hs2) ?_
  refine mEnds.cut (l := [some (.ref 27), some (.int (nI 0))]) ⟨rfl, ⟨rfl, trivial⟩⟩ ?_
  exact ok_T_tellOut_27 FU (nI 0) s2 _ hf
def T_tellOut (s : sg) : Option sg :=
  if s 27 9 = 0 then
    T_tellOut_16 s
  else
    (T_fail (nI 4) (s 27 7) s).bind fun s1 =>
    T_tellOut_16 s1
set_option maxRecDepth 100000 in
theorem ok_T_tellOut {s : sg} {rv : sg} (hf : T_tellOut s = some rv) : mEnds [] 2 45 (0, [some (.ref 27), none], [], hp shC s, 0, 0) (none, hp shC rv, 0, 0) := by
  unfold T_tellOut at hf
  refine mEnds.stp 1 (pc' := 1) (l' := [some (.ref 27), none]) (st' := [.ref 27]) (fun _ => rfl) ?_
  refine t_gi (rfl : mfetch 45 1 = some (1, .getfield 41, 3, 3, 9, 0)) rfl rfl ?_
  by_cases hc1 : s 27 9 = 0
  · rw [if_pos hc1] at hf
    refine t_jT (t := 16) (rfl : mfetch 45 4 = some (4, .ifCond .eq 12, 3, 0, 0, 0)) rfl (k_eq hc1) ?_
    refine mEnds.cut (l := [some (.ref 27), none]) ⟨rfl, trivial⟩ ?_
    exact ok_T_tellOut_16 hf
  · rw [if_neg hc1] at hf
    refine t_jF (rfl : mfetch 45 4 = some (4, .ifCond .eq 12, 3, 0, 0, 0)) (k_eq' hc1) ?_
    refine mEnds.stp 3 (pc' := 10) (l' := [some (.ref 27), none]) (st' := [.ref 27, .int (nI 4), .ref 27]) (fun _ => rfl) ?_
    refine t_gi (rfl : mfetch 45 10 = some (10, .getfield 64, 3, 3, 7, 0)) rfl rfl ?_
    obtain ⟨s1, hs1, hf⟩ := ob hf
    refine t_cv (as := [.int (nI 4), .int (s 27 7)]) (st := []) (rfl : mfetch 45 13 = some (13, .invokevirtual 67, 3, 38, 0, 0)) rfl rfl rfl rfl rfl ((ok_T_fail hs1).deep 1) ?_
    refine mEnds.cut (l := [some (.ref 27), none]) ⟨rfl, trivial⟩ ?_
    exact ok_T_tellOut_16 hf
def T_tellLine_17 (y0 : Int32) (s : sg) : Option sg :=
  if y0 = nI 10 then
    (T_tellRoom s).bind fun s1 =>
    some s1
  else
    if y0 = nI 11 then
      (T_tellWall s).bind fun s2 =>
      some s2
    else
      if y0 = nI 12 then
        (T_tellOut s).bind fun s3 =>
        some s3
      else
        if y0 = nI 13 then
          (T_fail (nI 2) (s 27 7) s).bind fun s4 =>
          some s4
        else
          (T_tellTongue y0 s).bind fun s5 =>
          some s5
set_option maxRecDepth 100000 in
theorem ok_T_tellLine_17 {y0 : Int32} {s : sg} {rv : sg} (hf : T_tellLine_17 y0 s = some rv) : mEnds [] 4 39 (17, [some (.ref 27), none], [.int y0], hp shC s, 0, 0) (none, hp shC rv, 0, 0) := by
  unfold T_tellLine_17 at hf
  refine mEnds.stp 2 (pc' := 19) (l' := [some (.ref 27), some (.int y0)]) (st' := [.int y0]) (fun _ => rfl) ?_
  by_cases hc1 : y0 = nI 10
  · rw [if_pos hc1] at hf
    refine t_sw hc1 (fun _ _ _ => rfl) (t := 60) ?_
    refine mEnds.stp 1 (pc' := 61) (l' := [some (.ref 27), some (.int y0)]) (st' := [.ref 27]) (fun _ => rfl) ?_
    obtain ⟨s1, hs1, hf⟩ := ob hf
    refine t_cv (as := []) (st := []) (rfl : mfetch 39 61 = some (61, .invokevirtual 71, 3, 42, 0, 0)) rfl rfl rfl rfl rfl (ok_T_tellRoom hs1) ?_
    refine mEnds.stp 1 (pc' := 86) (l' := [some (.ref 27), some (.int y0)]) (st' := []) (fun _ => rfl) ?_
    cases hf; exact mEnds.rt (fun _ => rfl)
  · rw [if_neg hc1] at hf
    by_cases hc2 : y0 = nI 11
    · rw [if_pos hc2] at hf
      refine t_sw hc2 (fun _ _ _ => rfl) (t := 67) ?_
      refine mEnds.stp 1 (pc' := 68) (l' := [some (.ref 27), some (.int y0)]) (st' := [.ref 27]) (fun _ => rfl) ?_
      obtain ⟨s2, hs2, hf⟩ := ob hf
      refine t_cv (as := []) (st := []) (rfl : mfetch 39 68 = some (68, .invokevirtual 74, 3, 44, 0, 0)) rfl rfl rfl rfl rfl (ok_T_tellWall hs2) ?_
      refine mEnds.stp 1 (pc' := 86) (l' := [some (.ref 27), some (.int y0)]) (st' := []) (fun _ => rfl) ?_
      cases hf; exact mEnds.rt (fun _ => rfl)
    · rw [if_neg hc2] at hf
      by_cases hc3 : y0 = nI 12
      · rw [if_pos hc3] at hf
        refine t_sw hc3 (fun _ _ _ => rfl) (t := 74) ?_
        refine mEnds.stp 1 (pc' := 75) (l' := [some (.ref 27), some (.int y0)]) (st' := [.ref 27]) (fun _ => rfl) ?_
        obtain ⟨s3, hs3, hf⟩ := ob hf
        refine t_cv (as := []) (st := []) (rfl : mfetch 39 75 = some (75, .invokevirtual 77, 3, 45, 0, 0)) rfl rfl rfl rfl rfl ((ok_T_tellOut hs3).deep 1) ?_
        refine mEnds.stp 1 (pc' := 86) (l' := [some (.ref 27), some (.int y0)]) (st' := []) (fun _ => rfl) ?_
        cases hf; exact mEnds.rt (fun _ => rfl)
      · rw [if_neg hc3] at hf
        by_cases hc4 : y0 = nI 13
        · rw [if_pos hc4] at hf
          refine t_sw hc4 (fun _ _ _ => rfl) (t := 48) ?_
          refine mEnds.stp 3 (pc' := 51) (l' := [some (.ref 27), some (.int y0)]) (st' := [.ref 27, .int (nI 2), .ref 27]) (fun _ => rfl) ?_
          refine t_gi (rfl : mfetch 39 51 = some (51, .getfield 64, 3, 3, 7, 0)) rfl rfl ?_
          obtain ⟨s4, hs4, hf⟩ := ob hf
          refine t_cv (as := [.int (nI 2), .int (s 27 7)]) (st := []) (rfl : mfetch 39 54 = some (54, .invokevirtual 67, 3, 38, 0, 0)) rfl rfl rfl rfl rfl ((ok_T_fail hs4).deep 3) ?_
          refine mEnds.stp 1 (pc' := 86) (l' := [some (.ref 27), some (.int y0)]) (st' := []) (fun _ => rfl) ?_
          cases hf; exact mEnds.rt (fun _ => rfl)
        · rw [if_neg hc4] at hf
          refine t_swD (t := 81) (rfl : mfetch 39 19 = some (19, .tableswitch 62 10 13 #[41, 48, 55, 29], 29, 0, 0, 0)) rfl (sw_out (fun k hk => match k, hk with | 0, _ => hc1 | 1, _ => hc2 | 2, _ => hc3 | 3, _ => hc4 | k + 4, hk => absurd hk (by omega))) ?_
          refine mEnds.stp 2 (pc' := 83) (l' := [some (.ref 27), some (.int y0)]) (st' := [.int y0, .ref 27]) (fun _ => rfl) ?_
          obtain ⟨s5, hs5, hf⟩ := ob hf
          refine t_cv (as := [.int y0]) (st := []) (rfl : mfetch 39 83 = some (83, .invokevirtual 80, 3, 43, 0, 0)) rfl rfl rfl rfl rfl (ok_T_tellTongue hs5) ?_
          cases hf; exact mEnds.rt (fun _ => rfl)
def T_tellLine (s : sg) : Option sg :=
  if s 27 6 = nI 1 then
    (T_lineByName s).bind fun v1 =>
    T_tellLine_17 v1 s
  else
    T_tellLine_17 (nI 13) s
set_option maxRecDepth 100000 in
theorem ok_T_tellLine {s : sg} {rv : sg} (hf : T_tellLine s = some rv) : mEnds [] 4 39 (0, [some (.ref 27), none], [], hp shC s, 0, 0) (none, hp shC rv, 0, 0) := by
  unfold T_tellLine at hf
  refine mEnds.stp 1 (pc' := 1) (l' := [some (.ref 27), none]) (st' := [.ref 27]) (fun _ => rfl) ?_
  refine t_gi (rfl : mfetch 39 1 = some (1, .getfield 51, 3, 3, 6, 0)) rfl rfl ?_
  refine mEnds.stp 1 (pc' := 5) (l' := [some (.ref 27), none]) (st' := [.int (nI 1), .int (s 27 6)]) (fun _ => rfl) ?_
  by_cases hc1 : s 27 6 = nI 1
  · rw [if_pos hc1] at hf
    refine t_cF (rfl : mfetch 39 5 = some (5, .if_icmp .ne 10, 3, 0, 0, 0)) (k_ne' hc1) ?_
    refine mEnds.stp 1 (pc' := 9) (l' := [some (.ref 27), none]) (st' := [.ref 27]) (fun _ => rfl) ?_
    obtain ⟨v1, hv1, hf⟩ := ob hf
    refine t_cv (as := []) (st := []) (rfl : mfetch 39 9 = some (9, .invokevirtual 60, 3, 40, 0, 0)) rfl rfl rfl rfl rfl ((ok_T_lineByName hv1).deep 2) ?_
    refine mEnds.stp 1 (pc' := 17) (l' := [some (.ref 27), none]) (st' := [.int v1]) (fun _ => rfl) ?_
    refine mEnds.cut (l := [some (.ref 27), none]) ⟨rfl, trivial⟩ ?_
    exact ok_T_tellLine_17 hf
  · rw [if_neg hc1] at hf
    refine t_cT (t := 15) (rfl : mfetch 39 5 = some (5, .if_icmp .ne 10, 3, 0, 0, 0)) rfl (k_ne hc1) ?_
    refine mEnds.stp 1 (pc' := 17) (l' := [some (.ref 27), none]) (st' := [.int (nI 13)]) (fun _ => rfl) ?_
    refine mEnds.cut (l := [some (.ref 27), none]) ⟨rfl, trivial⟩ ?_
    exact ok_T_tellLine_17 hf
def T_findMissing_43 : Nat → Int32 → sg → Option sg
  | 0, _, _ => none
  | fu + 1, x1, s =>
  if x1 < nI 5 then
    if ((s 27 10) >>> (x1 &&& 31)) &&& (nI 1) = nI 1 then
      (H_hasWall 29 x1 s).bind fun v1 =>
      if v1 = 0 then
        (T_fail (nI 6) (s 27 1) s).bind fun s1 =>
        T_findMissing_43 fu (x1 + (nI 1)) s1
      else
        T_findMissing_43 fu (x1 + (nI 1)) s
    else
      T_findMissing_43 fu (x1 + (nI 1)) s
  else
    some s
set_option maxRecDepth 100000 in
theorem ok_T_findMissing_43 : ∀ (fu : Nat) (x1 : Int32) (s : sg) (rv : sg), T_findMissing_43 fu x1 s = some rv → mEnds [] 1 53 (43, [some (.ref 27), some (.int x1)], [], hp shC s, 0, 0) (none, hp shC rv, 0, 0)
  | 0, _, _, _, hf => by cases hf
  | fu + 1, x1, s, rv, hf => by
    rw [T_findMissing_43] at hf
    refine mEnds.stp 2 (pc' := 45) (l' := [some (.ref 27), some (.int x1)]) (st' := [.int (nI 5), .int x1]) (fun _ => rfl) ?_
    by_cases hc1 : x1 < nI 5
    · rw [if_pos hc1] at hf
      refine t_cF (rfl : mfetch 53 45 = some (45, .if_icmp .ge 42, 3, 0, 0, 0)) (k_ge' hc1) ?_
      refine mEnds.stp 1 (pc' := 49) (l' := [some (.ref 27), some (.int x1)]) (st' := [.ref 27]) (fun _ => rfl) ?_
      refine t_gi (rfl : mfetch 53 49 = some (49, .getfield 45, 3, 3, 10, 0)) rfl rfl ?_
      refine mEnds.stp 5 (pc' := 57) (l' := [some (.ref 27), some (.int x1)]) (st' := [.int (nI 1), .int (((s 27 10) >>> (x1 &&& 31)) &&& (nI 1))]) (fun _ => rfl) ?_
      by_cases hc2 : ((s 27 10) >>> (x1 &&& 31)) &&& (nI 1) = nI 1
      · rw [if_pos hc2] at hf
        refine t_cF (rfl : mfetch 53 57 = some (57, .if_icmp .ne 24, 3, 0, 0, 0)) (k_ne' hc2) ?_
        refine mEnds.stp 1 (pc' := 61) (l' := [some (.ref 27), some (.int x1)]) (st' := [.ref 27]) (fun _ => rfl) ?_
        refine t_gr (rfl : mfetch 53 61 = some (61, .getfield 18, 3, 3, 2, 0)) rfl rfl ?_
        refine mEnds.stp 1 (pc' := 65) (l' := [some (.ref 27), some (.int x1)]) (st' := [.int x1, .ref 29]) (fun _ => rfl) ?_
        obtain ⟨v1, hv1, hf⟩ := ob hf
        refine t_cv (as := [.int x1]) (st := []) (rfl : mfetch 53 65 = some (65, .invokevirtual 158, 3, 9, 0, 0)) rfl rfl rfl rfl rfl (ok_H_hasWall isH_29 hv1) ?_
        by_cases hc3 : v1 = 0
        · rw [if_pos hc3] at hf
          refine t_jF (rfl : mfetch 53 68 = some (68, .ifCond .ne 13, 3, 0, 0, 0)) (k_ne' hc3) ?_
          refine mEnds.stp 3 (pc' := 75) (l' := [some (.ref 27), some (.int x1)]) (st' := [.ref 27, .int (nI 6), .ref 27]) (fun _ => rfl) ?_
          refine t_gi (rfl : mfetch 53 75 = some (75, .getfield 22, 3, 3, 1, 0)) rfl rfl ?_
          obtain ⟨s1, hs1, hf⟩ := ob hf
          refine t_cv (as := [.int (nI 6), .int (s 27 1)]) (st := []) (rfl : mfetch 53 78 = some (78, .invokevirtual 67, 3, 38, 0, 0)) rfl rfl rfl rfl rfl (ok_T_fail hs1) ?_
          refine mEnds.stp 2 (pc' := 43) (l' := [some (.ref 27), some (.int (x1 + (nI 1)))]) (st' := []) (fun _ => rfl) ?_
          refine mEnds.cut (l := [some (.ref 27), some (.int (x1 + (nI 1)))]) ⟨rfl, ⟨rfl, trivial⟩⟩ ?_
          exact ok_T_findMissing_43 fu (x1 + (nI 1)) s1 _ hf
        · rw [if_neg hc3] at hf
          refine t_jT (t := 81) (rfl : mfetch 53 68 = some (68, .ifCond .ne 13, 3, 0, 0, 0)) rfl (k_ne hc3) ?_
          refine mEnds.stp 2 (pc' := 43) (l' := [some (.ref 27), some (.int (x1 + (nI 1)))]) (st' := []) (fun _ => rfl) ?_
          refine mEnds.cut (l := [some (.ref 27), some (.int (x1 + (nI 1)))]) ⟨rfl, ⟨rfl, trivial⟩⟩ ?_
          exact ok_T_findMissing_43 fu (x1 + (nI 1)) s _ hf
      · rw [if_neg hc2] at hf
        refine t_cT (t := 81) (rfl : mfetch 53 57 = some (57, .if_icmp .ne 24, 3, 0, 0, 0)) rfl (k_ne hc2) ?_
        refine mEnds.stp 2 (pc' := 43) (l' := [some (.ref 27), some (.int (x1 + (nI 1)))]) (st' := []) (fun _ => rfl) ?_
        refine mEnds.cut (l := [some (.ref 27), some (.int (x1 + (nI 1)))]) ⟨rfl, ⟨rfl, trivial⟩⟩ ?_
        exact ok_T_findMissing_43 fu (x1 + (nI 1)) s _ hf
    · rw [if_neg hc1] at hf
      refine t_cT (t := 87) (rfl : mfetch 53 45 = some (45, .if_icmp .ge 42, 3, 0, 0, 0)) rfl (k_ge hc1) ?_
      cases hf; exact mEnds.rt (fun _ => rfl)
def T_findMissing_8 : Nat → Int32 → sg → Option sg
  | 0, _, _ => none
  | fu + 1, x1, s =>
  if x1 < nI 6 then
    (H_hasTongue 29 x1 s).bind fun v1 =>
    if v1 = 0 then
      T_findMissing_8 fu (x1 + (nI 1)) s
    else
      (T_fail (nI 6) (s 27 1) s).bind fun s1 =>
      T_findMissing_8 fu (x1 + (nI 1)) s1
  else
    T_findMissing_43 FU (nI 0) s
set_option maxRecDepth 100000 in
theorem ok_T_findMissing_8 : ∀ (fu : Nat) (x1 : Int32) (s : sg) (rv : sg), T_findMissing_8 fu x1 s = some rv → mEnds [] 1 53 (8, [some (.ref 27), some (.int x1)], [], hp shC s, 0, 0) (none, hp shC rv, 0, 0)
  | 0, _, _, _, hf => by cases hf
  | fu + 1, x1, s, rv, hf => by
    rw [T_findMissing_8] at hf
    refine mEnds.stp 2 (pc' := 11) (l' := [some (.ref 27), some (.int x1)]) (st' := [.int (nI 6), .int x1]) (fun _ => rfl) ?_
    by_cases hc1 : x1 < nI 6
    · rw [if_pos hc1] at hf
      refine t_cF (rfl : mfetch 53 11 = some (11, .if_icmp .ge 30, 3, 0, 0, 0)) (k_ge' hc1) ?_
      refine mEnds.stp 1 (pc' := 15) (l' := [some (.ref 27), some (.int x1)]) (st' := [.ref 27]) (fun _ => rfl) ?_
      refine t_gr (rfl : mfetch 53 15 = some (15, .getfield 18, 3, 3, 2, 0)) rfl rfl ?_
      refine mEnds.stp 1 (pc' := 19) (l' := [some (.ref 27), some (.int x1)]) (st' := [.int x1, .ref 29]) (fun _ => rfl) ?_
      obtain ⟨v1, hv1, hf⟩ := ob hf
      refine t_cv (as := [.int x1]) (st := []) (rfl : mfetch 53 19 = some (19, .invokevirtual 130, 3, 10, 0, 0)) rfl rfl rfl rfl rfl (ok_H_hasTongue isH_29 hv1) ?_
      by_cases hc2 : v1 = 0
      · rw [if_pos hc2] at hf
        refine t_jT (t := 35) (rfl : mfetch 53 22 = some (22, .ifCond .eq 13, 3, 0, 0, 0)) rfl (k_eq hc2) ?_
        refine mEnds.stp 2 (pc' := 8) (l' := [some (.ref 27), some (.int (x1 + (nI 1)))]) (st' := []) (fun _ => rfl) ?_
        refine mEnds.cut (l := [some (.ref 27), some (.int (x1 + (nI 1)))]) ⟨rfl, ⟨rfl, trivial⟩⟩ ?_
        exact ok_T_findMissing_8 fu (x1 + (nI 1)) s _ hf
      · rw [if_neg hc2] at hf
        refine t_jF (rfl : mfetch 53 22 = some (22, .ifCond .eq 13, 3, 0, 0, 0)) (k_eq' hc2) ?_
        refine mEnds.stp 3 (pc' := 29) (l' := [some (.ref 27), some (.int x1)]) (st' := [.ref 27, .int (nI 6), .ref 27]) (fun _ => rfl) ?_
        refine t_gi (rfl : mfetch 53 29 = some (29, .getfield 22, 3, 3, 1, 0)) rfl rfl ?_
        obtain ⟨s1, hs1, hf⟩ := ob hf
        refine t_cv (as := [.int (nI 6), .int (s 27 1)]) (st := []) (rfl : mfetch 53 32 = some (32, .invokevirtual 67, 3, 38, 0, 0)) rfl rfl rfl rfl rfl (ok_T_fail hs1) ?_
        refine mEnds.stp 2 (pc' := 8) (l' := [some (.ref 27), some (.int (x1 + (nI 1)))]) (st' := []) (fun _ => rfl) ?_
        refine mEnds.cut (l := [some (.ref 27), some (.int (x1 + (nI 1)))]) ⟨rfl, ⟨rfl, trivial⟩⟩ ?_
        exact ok_T_findMissing_8 fu (x1 + (nI 1)) s1 _ hf
    · rw [if_neg hc1] at hf
      refine t_cT (t := 41) (rfl : mfetch 53 11 = some (11, .if_icmp .ge 30, 3, 0, 0, 0)) rfl (k_ge hc1) ?_
      refine mEnds.stp 2 (pc' := 43) (l' := [some (.ref 27), some (.int (nI 0))]) (st' := []) (fun _ => rfl) ?_
      refine mEnds.cut (l := [some (.ref 27), some (.int (nI 0))]) ⟨rfl, ⟨rfl, trivial⟩⟩ ?_
      exact ok_T_findMissing_43 FU (nI 0) s _ hf
def T_findMissing (s : sg) : Option sg :=
  T_findMissing_8 FU (s 29 0) s
set_option maxRecDepth 100000 in
theorem ok_T_findMissing {s : sg} {rv : sg} (hf : T_findMissing s = some rv) : mEnds [] 1 53 (0, [some (.ref 27), none], [], hp shC s, 0, 0) (none, hp shC rv, 0, 0) := by
  unfold T_findMissing at hf
  refine mEnds.stp 1 (pc' := 1) (l' := [some (.ref 27), none]) (st' := [.ref 27]) (fun _ => rfl) ?_
  refine t_gr (rfl : mfetch 53 1 = some (1, .getfield 18, 3, 3, 2, 0)) rfl rfl ?_
  refine t_gi (rfl : mfetch 53 4 = some (4, .getfield 110, 3, 1, 0, 0)) rfl rfl ?_
  refine mEnds.stp 1 (pc' := 8) (l' := [some (.ref 27), some (.int (s 29 0))]) (st' := []) (fun _ => rfl) ?_
  refine mEnds.cut (l := [some (.ref 27), some (.int (s 29 0))]) ⟨rfl, ⟨rfl, trivial⟩⟩ ?_
  exact ok_T_findMissing_8 FU (s 29 0) s _ hf
def T_tell_88 (s : sg) : Option (Int32 × sg) :=
  (T_findMissing s).bind fun s1 =>
  if s1 27 3 = 0 then
    some (nI 1, s1)
  else
    some (nI 0, s1)
set_option maxRecDepth 100000 in
theorem ok_T_tell_88 {s : sg} {rv : (Int32 × sg)} (hf : T_tell_88 s = some rv) : mEnds [] 5 37 (88, [some (.ref 27), none], [], hp shC s, 0, 0) (some (.int rv.1), hp shC rv.2, 0, 0) := by
  unfold T_tell_88 at hf
  refine mEnds.stp 1 (pc' := 89) (l' := [some (.ref 27), none]) (st' := [.ref 27]) (fun _ => rfl) ?_
  obtain ⟨s1, hs1, hf⟩ := ob hf
  refine t_cv (as := []) (st := []) (rfl : mfetch 37 89 = some (89, .invokevirtual 57, 3, 53, 0, 0)) rfl rfl rfl rfl rfl ((ok_T_findMissing hs1).deep 3) ?_
  refine mEnds.stp 1 (pc' := 93) (l' := [some (.ref 27), none]) (st' := [.ref 27]) (fun _ => rfl) ?_
  refine t_gi (rfl : mfetch 37 93 = some (93, .getfield 29, 3, 3, 3, 0)) rfl rfl ?_
  by_cases hc1 : s1 27 3 = 0
  · rw [if_pos hc1] at hf
    refine t_jF (rfl : mfetch 37 96 = some (96, .ifCond .ne 7, 3, 0, 0, 0)) (k_ne' hc1) ?_
    refine mEnds.stp 2 (pc' := 104) (l' := [some (.ref 27), none]) (st' := [.int (nI 1)]) (fun _ => rfl) ?_
    exact mEnds.rti (Option.some.inj hf) (fun _ => rfl)
  · rw [if_neg hc1] at hf
    refine t_jT (t := 103) (rfl : mfetch 37 96 = some (96, .ifCond .ne 7, 3, 0, 0, 0)) rfl (k_ne hc1) ?_
    refine mEnds.stp 1 (pc' := 104) (l' := [some (.ref 27), none]) (st' := [.int (nI 0)]) (fun _ => rfl) ?_
    exact mEnds.rti (Option.some.inj hf) (fun _ => rfl)
def T_tell_43 : Nat → Int32 → sg → Option (Int32 × sg)
  | 0, _, _ => none
  | fu + 1, x1, s =>
  if x1 < nI 160 then
    if s 27 3 = 0 then
      if s 27 6 = 0 then
        T_tell_88 s
      else
        (T_tellLine s).bind fun s1 =>
        (some (up s1 27 5 ((s1 27 5) + (nI 1)))).bind fun s2 =>
        (T_nextToken s2).bind fun s3 =>
        T_tell_43 fu (x1 + (nI 1)) s3
    else
      T_tell_88 s
  else
    T_tell_88 s
set_option maxRecDepth 100000 in
theorem ok_T_tell_43 : ∀ (fu : Nat) (x1 : Int32) (s : sg) (rv : (Int32 × sg)), T_tell_43 fu x1 s = some rv → mEnds [] 5 37 (43, [some (.ref 27), some (.int x1)], [], hp shC s, 0, 0) (some (.int rv.1), hp shC rv.2, 0, 0)
  | 0, _, _, _, hf => by cases hf
  | fu + 1, x1, s, rv, hf => by
    rw [T_tell_43] at hf
    refine mEnds.stp 2 (pc' := 47) (l' := [some (.ref 27), some (.int x1)]) (st' := [.int (nI 160), .int x1]) (fun _ => rfl) ?_
    by_cases hc1 : x1 < nI 160
    · rw [if_pos hc1] at hf
      refine t_cF (rfl : mfetch 37 47 = some (47, .if_icmp .ge 41, 3, 0, 0, 0)) (k_ge' hc1) ?_
      refine mEnds.stp 1 (pc' := 51) (l' := [some (.ref 27), some (.int x1)]) (st' := [.ref 27]) (fun _ => rfl) ?_
      refine t_gi (rfl : mfetch 37 51 = some (51, .getfield 29, 3, 3, 3, 0)) rfl rfl ?_
      by_cases hc2 : s 27 3 = 0
      · rw [if_pos hc2] at hf
        refine t_jF (rfl : mfetch 37 54 = some (54, .ifCond .ne 34, 3, 0, 0, 0)) (k_ne' hc2) ?_
        refine mEnds.stp 1 (pc' := 58) (l' := [some (.ref 27), some (.int x1)]) (st' := [.ref 27]) (fun _ => rfl) ?_
        refine t_gi (rfl : mfetch 37 58 = some (58, .getfield 51, 3, 3, 6, 0)) rfl rfl ?_
        by_cases hc3 : s 27 6 = 0
        · rw [if_pos hc3] at hf
          refine t_jT (t := 88) (rfl : mfetch 37 61 = some (61, .ifCond .eq 27, 3, 0, 0, 0)) rfl (k_eq hc3) ?_
          refine mEnds.cut (l := [some (.ref 27), none]) ⟨rfl, trivial⟩ ?_
          exact ok_T_tell_88 hf
        · rw [if_neg hc3] at hf
          refine t_jF (rfl : mfetch 37 61 = some (61, .ifCond .eq 27, 3, 0, 0, 0)) (k_eq' hc3) ?_
          refine mEnds.stp 1 (pc' := 65) (l' := [some (.ref 27), some (.int x1)]) (st' := [.ref 27]) (fun _ => rfl) ?_
          obtain ⟨s1, hs1, hf⟩ := ob hf
          refine t_cv (as := []) (st := []) (rfl : mfetch 37 65 = some (65, .invokevirtual 54, 3, 39, 0, 0)) rfl rfl rfl rfl rfl (ok_T_tellLine hs1) ?_
          refine mEnds.stp 2 (pc' := 70) (l' := [some (.ref 27), some (.int x1)]) (st' := [.ref 27, .ref 27]) (fun _ => rfl) ?_
          refine t_gi (rfl : mfetch 37 70 = some (70, .getfield 35, 3, 3, 5, 0)) rfl rfl ?_
          refine mEnds.stp 2 (pc' := 75) (l' := [some (.ref 27), some (.int x1)]) (st' := [.int ((s1 27 5) + (nI 1)), .ref 27]) (fun _ => rfl) ?_
          obtain ⟨s2, hs2, hf⟩ := ob hf
          refine t_pi (rfl : mfetch 37 75 = some (75, .putfield 35, 3, 3, 5, 0)) rfl rfl rfl rfl hs2 ?_
          refine mEnds.stp 1 (pc' := 79) (l' := [some (.ref 27), some (.int x1)]) (st' := [.ref 27]) (fun _ => rfl) ?_
          obtain ⟨s3, hs3, hf⟩ := ob hf
          refine t_cv (as := []) (st := []) (rfl : mfetch 37 79 = some (79, .invokevirtual 48, 3, 50, 0, 0)) rfl rfl rfl rfl rfl ((ok_T_nextToken hs3).deep 3) ?_
          refine mEnds.stp 2 (pc' := 43) (l' := [some (.ref 27), some (.int (x1 + (nI 1)))]) (st' := []) (fun _ => rfl) ?_
          refine mEnds.cut (l := [some (.ref 27), some (.int (x1 + (nI 1)))]) ⟨rfl, ⟨rfl, trivial⟩⟩ ?_
          exact ok_T_tell_43 fu (x1 + (nI 1)) s3 _ hf
      · rw [if_neg hc2] at hf
        refine t_jT (t := 88) (rfl : mfetch 37 54 = some (54, .ifCond .ne 34, 3, 0, 0, 0)) rfl (k_ne hc2) ?_
        refine mEnds.cut (l := [some (.ref 27), none]) ⟨rfl, trivial⟩ ?_
        exact ok_T_tell_88 hf
    · rw [if_neg hc1] at hf
      refine t_cT (t := 88) (rfl : mfetch 37 47 = some (47, .if_icmp .ge 41, 3, 0, 0, 0)) rfl (k_ge hc1) ?_
      refine mEnds.cut (l := [some (.ref 27), none]) ⟨rfl, trivial⟩ ?_
      exact ok_T_tell_88 hf
def T_tell (s : sg) : Option (Int32 × sg) :=
  (H_empty 29 s).bind fun s1 =>
  (some (up s1 27 3 (nI 0))).bind fun s2 =>
  (some (up s2 27 4 (nI 0))).bind fun s3 =>
  (some (up s3 27 5 (nI 0))).bind fun s4 =>
  (some (up s4 27 8 (nI 0))).bind fun s5 =>
  (some (up s5 27 9 (nI 0))).bind fun s6 =>
  (some (up s6 27 10 (nI 0))).bind fun s7 =>
  (T_nextToken s7).bind fun s8 =>
  T_tell_43 FU (nI 0) s8
set_option maxRecDepth 100000 in
theorem ok_T_tell {s : sg} {rv : (Int32 × sg)} (hf : T_tell s = some rv) : mEnds [] 5 37 (0, [some (.ref 27), none], [], hp shC s, 0, 0) (some (.int rv.1), hp shC rv.2, 0, 0) := by
  unfold T_tell at hf
  refine mEnds.stp 1 (pc' := 1) (l' := [some (.ref 27), none]) (st' := [.ref 27]) (fun _ => rfl) ?_
  refine t_gr (rfl : mfetch 37 1 = some (1, .getfield 18, 3, 3, 2, 0)) rfl rfl ?_
  obtain ⟨s1, hs1, hf⟩ := ob hf
  refine t_cv (as := []) (st := []) (rfl : mfetch 37 4 = some (4, .invokevirtual 26, 3, 6, 0, 0)) rfl rfl rfl rfl rfl ((ok_H_empty isH_29 hs1).deep 4) ?_
  refine mEnds.stp 2 (pc' := 9) (l' := [some (.ref 27), none]) (st' := [.int (nI 0), .ref 27]) (fun _ => rfl) ?_
  obtain ⟨s2, hs2, hf⟩ := ob hf
  refine t_pi (rfl : mfetch 37 9 = some (9, .putfield 29, 3, 3, 3, 0)) rfl rfl rfl rfl hs2 ?_
  refine mEnds.stp 2 (pc' := 14) (l' := [some (.ref 27), none]) (st' := [.int (nI 0), .ref 27]) (fun _ => rfl) ?_
  obtain ⟨s3, hs3, hf⟩ := ob hf
  refine t_pi (rfl : mfetch 37 14 = some (14, .putfield 32, 3, 3, 4, 0)) rfl rfl rfl rfl hs3 ?_
  refine mEnds.stp 2 (pc' := 19) (l' := [some (.ref 27), none]) (st' := [.int (nI 0), .ref 27]) (fun _ => rfl) ?_
  obtain ⟨s4, hs4, hf⟩ := ob hf
  refine t_pi (rfl : mfetch 37 19 = some (19, .putfield 35, 3, 3, 5, 0)) rfl rfl rfl rfl hs4 ?_
  refine mEnds.stp 2 (pc' := 24) (l' := [some (.ref 27), none]) (st' := [.int (nI 0), .ref 27]) (fun _ => rfl) ?_
  obtain ⟨s5, hs5, hf⟩ := ob hf
  refine t_pi (rfl : mfetch 37 24 = some (24, .putfield 38, 3, 3, 8, 0)) rfl rfl rfl rfl hs5 ?_
  refine mEnds.stp 2 (pc' := 29) (l' := [some (.ref 27), none]) (st' := [.int (nI 0), .ref 27]) (fun _ => rfl) ?_
  obtain ⟨s6, hs6, hf⟩ := ob hf
  refine t_pi (rfl : mfetch 37 29 = some (29, .putfield 41, 3, 3, 9, 0)) rfl rfl rfl rfl hs6 ?_
  refine mEnds.stp 2 (pc' := 34) (l' := [some (.ref 27), none]) (st' := [.int (nI 0), .ref 27]) (fun _ => rfl) ?_
  obtain ⟨s7, hs7, hf⟩ := ob hf
  refine t_pi (rfl : mfetch 37 34 = some (34, .putfield 45, 3, 3, 10, 0)) rfl rfl rfl rfl hs7 ?_
  refine mEnds.stp 1 (pc' := 38) (l' := [some (.ref 27), none]) (st' := [.ref 27]) (fun _ => rfl) ?_
  obtain ⟨s8, hs8, hf⟩ := ob hf
  refine t_cv (as := []) (st := []) (rfl : mfetch 37 38 = some (38, .invokevirtual 48, 3, 50, 0, 0)) rfl rfl rfl rfl rfl ((ok_T_nextToken hs8).deep 3) ?_
  refine mEnds.stp 2 (pc' := 43) (l' := [some (.ref 27), some (.int (nI 0))]) (st' := []) (fun _ => rfl) ?_
  refine mEnds.cut (l := [some (.ref 27), some (.int (nI 0))]) ⟨rfl, ⟨rfl, trivial⟩⟩ ?_
  exact ok_T_tell_43 FU (nI 0) s8 _ hf
def C_feed (x1 : Int32) (s : sg) : Option (Int32 × sg) :=
  (C_within x1 (nI 0) (nI 127) s).bind fun v1 =>
  if v1 = 0 then
    some ((-1), s)
  else
    (T_put x1 s).bind fun v2 =>
    if v2.1 = 0 then
      some ((-3), v2.2)
    else
      some (v2.2 27 1, v2.2)
set_option maxRecDepth 100000 in
theorem ok_C_feed {x1 : Int32} {s : sg} {rv : (Int32 × sg)} (hf : C_feed x1 s = some rv) : mEnds [] 1 55 (0, [some (.ref 10), some (.int x1)], [], hp shC s, 0, 0) (some (.int rv.1), hp shC rv.2, 0, 0) := by
  unfold C_feed at hf
  refine mEnds.stp 3 (pc' := 4) (l' := [some (.ref 10), some (.int x1)]) (st' := [.int (nI 127), .int (nI 0), .int x1]) (fun _ => rfl) ?_
  obtain ⟨v1, hv1, hf⟩ := ob hf
  refine t_cs (as := [.int x1, .int (nI 0), .int (nI 127)]) (st := []) (Or.inl rfl) (rfl : mfetch 55 4 = some (4, .invokestatic 48, 3, 105, 0, 0)) rfl rfl rfl (ok_C_within hv1) ?_
  by_cases hc1 : v1 = 0
  · rw [if_pos hc1] at hf
    refine t_jF (rfl : mfetch 55 7 = some (7, .ifCond .ne 5, 3, 0, 0, 0)) (k_ne' hc1) ?_
    refine mEnds.stp 1 (pc' := 11) (l' := [some (.ref 10), some (.int x1)]) (st' := [.int (-1)]) (fun _ => rfl) ?_
    exact mEnds.rti (Option.some.inj hf) (fun _ => rfl)
  · rw [if_neg hc1] at hf
    refine t_jT (t := 12) (rfl : mfetch 55 7 = some (7, .ifCond .ne 5, 3, 0, 0, 0)) rfl (k_ne hc1) ?_
    refine mEnds.stp 1 (pc' := 13) (l' := [some (.ref 10), some (.int x1)]) (st' := [.ref 10]) (fun _ => rfl) ?_
    refine t_gr (rfl : mfetch 55 13 = some (13, .getfield 43, 3, 4, 6, 0)) rfl rfl ?_
    refine mEnds.stp 1 (pc' := 17) (l' := [some (.ref 10), some (.int x1)]) (st' := [.int x1, .ref 27]) (fun _ => rfl) ?_
    obtain ⟨v2, hv2, hf⟩ := ob hf
    refine t_cv (as := [.int x1]) (st := []) (rfl : mfetch 55 17 = some (17, .invokevirtual 52, 3, 36, 0, 0)) rfl rfl rfl rfl rfl (ok_T_put hv2) ?_
    by_cases hc2 : v2.1 = 0
    · rw [if_pos hc2] at hf
      refine t_jT (t := 33) (rfl : mfetch 55 20 = some (20, .ifCond .eq 13, 3, 0, 0, 0)) rfl (k_eq hc2) ?_
      refine mEnds.stp 1 (pc' := 35) (l' := [some (.ref 10), some (.int x1)]) (st' := [.int (-3)]) (fun _ => rfl) ?_
      exact mEnds.rti (Option.some.inj hf) (fun _ => rfl)
    · rw [if_neg hc2] at hf
      refine t_jF (rfl : mfetch 55 20 = some (20, .ifCond .eq 13, 3, 0, 0, 0)) (k_eq' hc2) ?_
      refine mEnds.stp 1 (pc' := 24) (l' := [some (.ref 10), some (.int x1)]) (st' := [.ref 10]) (fun _ => rfl) ?_
      refine t_gr (rfl : mfetch 55 24 = some (24, .getfield 43, 3, 4, 6, 0)) rfl rfl ?_
      refine t_gi (rfl : mfetch 55 27 = some (27, .getfield 56, 3, 3, 1, 0)) rfl rfl ?_
      refine mEnds.stp 1 (pc' := 35) (l' := [some (.ref 10), some (.int x1)]) (st' := [.int (v2.2 27 1)]) (fun _ => rfl) ?_
      exact mEnds.rti (Option.some.inj hf) (fun _ => rfl)
def C_end (x1 : Int32) (s : sg) : Option (Int32 × sg) :=
  (C_within x1 (nI 0) (s 27 1) s).bind fun v1 =>
  if v1 = 0 then
    some ((-1), s)
  else
    (some (up s 27 1 x1)).bind fun s1 =>
    some (s 27 1, s1)
set_option maxRecDepth 100000 in
theorem ok_C_end {x1 : Int32} {s : sg} {rv : (Int32 × sg)} (hf : C_end x1 s = some rv) : mEnds [] 1 56 (0, [some (.ref 10), some (.int x1), none], [], hp shC s, 0, 0) (some (.int rv.1), hp shC rv.2, 0, 0) := by
  unfold C_end at hf
  refine mEnds.stp 1 (pc' := 1) (l' := [some (.ref 10), some (.int x1), none]) (st' := [.ref 10]) (fun _ => rfl) ?_
  refine t_gr (rfl : mfetch 56 1 = some (1, .getfield 43, 3, 4, 6, 0)) rfl rfl ?_
  refine t_gi (rfl : mfetch 56 4 = some (4, .getfield 56, 3, 3, 1, 0)) rfl rfl ?_
  refine mEnds.stp 4 (pc' := 11) (l' := [some (.ref 10), some (.int x1), some (.int (s 27 1))]) (st' := [.int (s 27 1), .int (nI 0), .int x1]) (fun _ => rfl) ?_
  obtain ⟨v1, hv1, hf⟩ := ob hf
  refine t_cs (as := [.int x1, .int (nI 0), .int (s 27 1)]) (st := []) (Or.inl rfl) (rfl : mfetch 56 11 = some (11, .invokestatic 48, 3, 105, 0, 0)) rfl rfl rfl (ok_C_within hv1) ?_
  by_cases hc1 : v1 = 0
  · rw [if_pos hc1] at hf
    refine t_jF (rfl : mfetch 56 14 = some (14, .ifCond .ne 5, 3, 0, 0, 0)) (k_ne' hc1) ?_
    refine mEnds.stp 1 (pc' := 18) (l' := [some (.ref 10), some (.int x1), some (.int (s 27 1))]) (st' := [.int (-1)]) (fun _ => rfl) ?_
    exact mEnds.rti (Option.some.inj hf) (fun _ => rfl)
  · rw [if_neg hc1] at hf
    refine t_jT (t := 19) (rfl : mfetch 56 14 = some (14, .ifCond .ne 5, 3, 0, 0, 0)) rfl (k_ne hc1) ?_
    refine mEnds.stp 1 (pc' := 20) (l' := [some (.ref 10), some (.int x1), some (.int (s 27 1))]) (st' := [.ref 10]) (fun _ => rfl) ?_
    refine t_gr (rfl : mfetch 56 20 = some (20, .getfield 43, 3, 4, 6, 0)) rfl rfl ?_
    refine mEnds.stp 1 (pc' := 24) (l' := [some (.ref 10), some (.int x1), some (.int (s 27 1))]) (st' := [.int x1, .ref 27]) (fun _ => rfl) ?_
    obtain ⟨s1, hs1, hf⟩ := ob hf
    refine t_pi (rfl : mfetch 56 24 = some (24, .putfield 56, 3, 3, 1, 0)) rfl rfl rfl rfl hs1 ?_
    refine mEnds.stp 1 (pc' := 28) (l' := [some (.ref 10), some (.int x1), some (.int (s 27 1))]) (st' := [.int (s 27 1)]) (fun _ => rfl) ?_
    exact mEnds.rti (Option.some.inj hf) (fun _ => rfl)
def C_text_55 : Nat → Int32 → sg → Option (Int32 × sg)
  | 0, _, _ => none
  | fu + 1, x2, s =>
  if x2 < nI 2 then
    (midx x2 2).bind fun j1 =>
    (some (up s 20 j1 (vp_nar .boolean (nI 0)))).bind fun s1 =>
    C_text_55 fu (x2 + (nI 1)) s1
  else
    some (s 27 5, s)
set_option maxRecDepth 100000 in
theorem ok_C_text_55 : ∀ (fu : Nat) (x2 : Int32) (s : sg) (rv : (Int32 × sg)), C_text_55 fu x2 s = some rv → mEnds [] 6 57 (55, [some (.ref 10), none, some (.int x2)], [], hp shC s, 0, 0) (some (.int rv.1), hp shC rv.2, 0, 0)
  | 0, _, _, _, hf => by cases hf
  | fu + 1, x2, s, rv, hf => by
    rw [C_text_55] at hf
    refine mEnds.stp 2 (pc' := 57) (l' := [some (.ref 10), none, some (.int x2)]) (st' := [.int (nI 2), .int x2]) (fun _ => rfl) ?_
    by_cases hc1 : x2 < nI 2
    · rw [if_pos hc1] at hf
      refine t_cF (rfl : mfetch 57 57 = some (57, .if_icmp .ge 16, 3, 0, 0, 0)) (k_ge' hc1) ?_
      refine mEnds.stp 1 (pc' := 61) (l' := [some (.ref 10), none, some (.int x2)]) (st' := [.ref 10]) (fun _ => rfl) ?_
      refine t_gr (rfl : mfetch 57 61 = some (61, .getfield 20, 3, 4, 2, 0)) rfl rfl ?_
      refine mEnds.stp 2 (pc' := 66) (l' := [some (.ref 10), none, some (.int x2)]) (st' := [.int (nI 0), .int x2, .ref 20]) (fun _ => rfl) ?_
      obtain ⟨j1, hj1, hf⟩ := ob hf
      obtain ⟨s1, hs1, hf⟩ := ob hf
      refine t_zs (rfl : mfetch 57 66 = some (66, .bastore, 1, 0, 0, 0)) rfl rfl hj1 hs1 ?_
      refine mEnds.stp 2 (pc' := 55) (l' := [some (.ref 10), none, some (.int (x2 + (nI 1)))]) (st' := []) (fun _ => rfl) ?_
      refine mEnds.cut (l := [some (.ref 10), none, some (.int (x2 + (nI 1)))]) ⟨rfl, ⟨rfl, trivial⟩⟩ ?_
      exact ok_C_text_55 fu (x2 + (nI 1)) s1 _ hf
    · rw [if_neg hc1] at hf
      refine t_cT (t := 73) (rfl : mfetch 57 57 = some (57, .if_icmp .ge 16, 3, 0, 0, 0)) rfl (k_ge hc1) ?_
      refine mEnds.stp 1 (pc' := 74) (l' := [some (.ref 10), none, some (.int x2)]) (st' := [.ref 10]) (fun _ => rfl) ?_
      refine t_gr (rfl : mfetch 57 74 = some (74, .getfield 43, 3, 4, 6, 0)) rfl rfl ?_
      refine t_gi (rfl : mfetch 57 77 = some (77, .getfield 77, 3, 3, 5, 0)) rfl rfl ?_
      exact mEnds.rti (Option.some.inj hf) (fun _ => rfl)
def C_text (s : sg) : Option (Int32 × sg) :=
  (T_tell s).bind fun v1 =>
  (some (up v1.2 27 1 (nI 0))).bind fun s1 =>
  if v1.1 = 0 then
    some ((-10) - (s1 27 4), s1)
  else
    (H_copyFrom 11 29 s1).bind fun s2 =>
    (some (up s2 23 3 (nI 0))).bind fun s3 =>
    C_text_55 FU (nI 0) s3
set_option maxRecDepth 100000 in
theorem ok_C_text {s : sg} {rv : (Int32 × sg)} (hf : C_text s = some rv) : mEnds [] 6 57 (0, [some (.ref 10), none, none], [], hp shC s, 0, 0) (some (.int rv.1), hp shC rv.2, 0, 0) := by
  unfold C_text at hf
  refine mEnds.stp 1 (pc' := 1) (l' := [some (.ref 10), none, none]) (st' := [.ref 10]) (fun _ => rfl) ?_
  refine t_gr (rfl : mfetch 57 1 = some (1, .getfield 43, 3, 4, 6, 0)) rfl rfl ?_
  obtain ⟨v1, hv1, hf⟩ := ob hf
  refine t_cv (as := []) (st := []) (rfl : mfetch 57 4 = some (4, .invokevirtual 60, 3, 37, 0, 0)) rfl rfl rfl rfl rfl (ok_T_tell hv1) ?_
  refine mEnds.stp 2 (pc' := 9) (l' := [some (.ref 10), some (.int v1.1), none]) (st' := [.ref 10]) (fun _ => rfl) ?_
  refine t_gr (rfl : mfetch 57 9 = some (9, .getfield 43, 3, 4, 6, 0)) rfl rfl ?_
  refine mEnds.stp 1 (pc' := 13) (l' := [some (.ref 10), some (.int v1.1), none]) (st' := [.int (nI 0), .ref 27]) (fun _ => rfl) ?_
  obtain ⟨s1, hs1, hf⟩ := ob hf
  refine t_pi (rfl : mfetch 57 13 = some (13, .putfield 56, 3, 3, 1, 0)) rfl rfl rfl rfl hs1 ?_
  refine mEnds.stp 1 (pc' := 17) (l' := [some (.ref 10), some (.int v1.1), none]) (st' := [.int v1.1]) (fun _ => rfl) ?_
  by_cases hc1 : v1.1 = 0
  · rw [if_pos hc1] at hf
    refine t_jF (rfl : mfetch 57 17 = some (17, .ifCond .ne 14, 3, 0, 0, 0)) (k_ne' hc1) ?_
    refine mEnds.stp 2 (pc' := 23) (l' := [some (.ref 10), some (.int v1.1), none]) (st' := [.ref 10, .int (-10)]) (fun _ => rfl) ?_
    refine t_gr (rfl : mfetch 57 23 = some (23, .getfield 43, 3, 4, 6, 0)) rfl rfl ?_
    refine t_gi (rfl : mfetch 57 26 = some (26, .getfield 64, 3, 3, 4, 0)) rfl rfl ?_
    refine mEnds.stp 1 (pc' := 30) (l' := [some (.ref 10), some (.int v1.1), none]) (st' := [.int ((-10) - (s1 27 4))]) (fun _ => rfl) ?_
    exact mEnds.rti (Option.some.inj hf) (fun _ => rfl)
  · rw [if_neg hc1] at hf
    refine t_jT (t := 31) (rfl : mfetch 57 17 = some (17, .ifCond .ne 14, 3, 0, 0, 0)) rfl (k_ne hc1) ?_
    refine mEnds.stp 1 (pc' := 32) (l' := [some (.ref 10), some (.int v1.1), none]) (st' := [.ref 10]) (fun _ => rfl) ?_
    refine t_gr (rfl : mfetch 57 32 = some (32, .getfield 10, 3, 4, 0, 0)) rfl rfl ?_
    refine mEnds.stp 1 (pc' := 36) (l' := [some (.ref 10), some (.int v1.1), none]) (st' := [.ref 10, .ref 11]) (fun _ => rfl) ?_
    refine t_gr (rfl : mfetch 57 36 = some (36, .getfield 43, 3, 4, 6, 0)) rfl rfl ?_
    refine t_gr (rfl : mfetch 57 39 = some (39, .getfield 67, 3, 3, 2, 0)) rfl rfl ?_
    obtain ⟨s2, hs2, hf⟩ := ob hf
    refine t_cv (as := [.ref 29]) (st := []) (rfl : mfetch 57 42 = some (42, .invokevirtual 70, 3, 7, 0, 0)) rfl rfl rfl rfl rfl ((ok_H_copyFrom isH_11 isH_29 hs2).deep 5) ?_
    refine mEnds.stp 1 (pc' := 46) (l' := [some (.ref 10), some (.int v1.1), none]) (st' := [.ref 10]) (fun _ => rfl) ?_
    refine t_gr (rfl : mfetch 57 46 = some (46, .getfield 36, 3, 4, 5, 0)) rfl rfl ?_
    refine mEnds.stp 1 (pc' := 50) (l' := [some (.ref 10), some (.int v1.1), none]) (st' := [.int (nI 0), .ref 23]) (fun _ => rfl) ?_
    obtain ⟨s3, hs3, hf⟩ := ob hf
    refine t_pi (rfl : mfetch 57 50 = some (50, .putfield 74, 3, 0, 3, 0)) rfl rfl rfl rfl hs3 ?_
    refine mEnds.stp 2 (pc' := 55) (l' := [some (.ref 10), some (.int v1.1), some (.int (nI 0))]) (st' := []) (fun _ => rfl) ?_
    refine mEnds.cut (l := [some (.ref 10), none, some (.int (nI 0))]) ⟨rfl, ⟨rfl, trivial⟩⟩ ?_
    exact ok_C_text_55 FU (nI 0) s3 _ hf
def C_fault (s : sg) : Option Int32 :=
  some (s 27 3)
set_option maxRecDepth 100000 in
theorem ok_C_fault {s : sg} {rv : Int32} (hf : C_fault s = some rv) : mEnds [] 0 58 (0, [some (.ref 10)], [], hp shC s, 0, 0) (some (.int rv), hp shC s, 0, 0) := by
  unfold C_fault at hf
  refine mEnds.stp 1 (pc' := 1) (l' := [some (.ref 10)]) (st' := [.ref 10]) (fun _ => rfl) ?_
  refine t_gr (rfl : mfetch 58 1 = some (1, .getfield 43, 3, 4, 6, 0)) rfl rfl ?_
  refine t_gi (rfl : mfetch 58 4 = some (4, .getfield 80, 3, 3, 3, 0)) rfl rfl ?_
  cases hf; exact mEnds.rt (fun _ => rfl)
def C_rule (x1 : Int32) (s : sg) : Option Int32 :=
  if x1 = nI 0 then
    some (s 11 0)
  else
    if x1 = nI 1 then
      some (s 11 2)
    else
      if x1 = nI 2 then
        some (s 11 3)
      else
        if x1 = nI 3 then
          some (s 11 4)
        else
          if x1 = nI 4 then
            (H_warmthOfAll 11 s).bind fun v1 =>
            some v1
          else
            if x1 = nI 5 then
              some (s 11 1)
            else
              if x1 = nI 6 then
                (H_skyNow 11 s).bind fun v2 =>
                some v2
              else
                some (-1)
set_option maxRecDepth 100000 in
theorem ok_C_rule {x1 : Int32} {s : sg} {rv : Int32} (hf : C_rule x1 s = some rv) : mEnds [] 2 59 (0, [some (.ref 10), some (.int x1)], [], hp shC s, 0, 0) (some (.int rv), hp shC s, 0, 0) := by
  unfold C_rule at hf
  refine mEnds.stp 1 (pc' := 1) (l' := [some (.ref 10), some (.int x1)]) (st' := [.int x1]) (fun _ => rfl) ?_
  by_cases hc1 : x1 = nI 0
  · rw [if_pos hc1] at hf
    refine t_sw hc1 (fun _ _ _ => rfl) (t := 44) ?_
    refine mEnds.stp 1 (pc' := 45) (l' := [some (.ref 10), some (.int x1)]) (st' := [.ref 10]) (fun _ => rfl) ?_
    refine t_gr (rfl : mfetch 59 45 = some (45, .getfield 10, 3, 4, 0, 0)) rfl rfl ?_
    refine t_gi (rfl : mfetch 59 48 = some (48, .getfield 83, 3, 1, 0, 0)) rfl rfl ?_
    cases hf; exact mEnds.rt (fun _ => rfl)
  · rw [if_neg hc1] at hf
    by_cases hc2 : x1 = nI 1
    · rw [if_pos hc2] at hf
      refine t_sw hc2 (fun _ _ _ => rfl) (t := 52) ?_
      refine mEnds.stp 1 (pc' := 53) (l' := [some (.ref 10), some (.int x1)]) (st' := [.ref 10]) (fun _ => rfl) ?_
      refine t_gr (rfl : mfetch 59 53 = some (53, .getfield 10, 3, 4, 0, 0)) rfl rfl ?_
      refine t_gi (rfl : mfetch 59 56 = some (56, .getfield 86, 3, 1, 2, 0)) rfl rfl ?_
      cases hf; exact mEnds.rt (fun _ => rfl)
    · rw [if_neg hc2] at hf
      by_cases hc3 : x1 = nI 2
      · rw [if_pos hc3] at hf
        refine t_sw hc3 (fun _ _ _ => rfl) (t := 60) ?_
        refine mEnds.stp 1 (pc' := 61) (l' := [some (.ref 10), some (.int x1)]) (st' := [.ref 10]) (fun _ => rfl) ?_
        refine t_gr (rfl : mfetch 59 61 = some (61, .getfield 10, 3, 4, 0, 0)) rfl rfl ?_
        refine t_gi (rfl : mfetch 59 64 = some (64, .getfield 89, 3, 1, 3, 0)) rfl rfl ?_
        cases hf; exact mEnds.rt (fun _ => rfl)
      · rw [if_neg hc3] at hf
        by_cases hc4 : x1 = nI 3
        · rw [if_pos hc4] at hf
          refine t_sw hc4 (fun _ _ _ => rfl) (t := 68) ?_
          refine mEnds.stp 1 (pc' := 69) (l' := [some (.ref 10), some (.int x1)]) (st' := [.ref 10]) (fun _ => rfl) ?_
          refine t_gr (rfl : mfetch 59 69 = some (69, .getfield 10, 3, 4, 0, 0)) rfl rfl ?_
          refine t_gi (rfl : mfetch 59 72 = some (72, .getfield 92, 3, 1, 4, 0)) rfl rfl ?_
          cases hf; exact mEnds.rt (fun _ => rfl)
        · rw [if_neg hc4] at hf
          by_cases hc5 : x1 = nI 4
          · rw [if_pos hc5] at hf
            refine t_sw hc5 (fun _ _ _ => rfl) (t := 76) ?_
            refine mEnds.stp 1 (pc' := 77) (l' := [some (.ref 10), some (.int x1)]) (st' := [.ref 10]) (fun _ => rfl) ?_
            refine t_gr (rfl : mfetch 59 77 = some (77, .getfield 10, 3, 4, 0, 0)) rfl rfl ?_
            obtain ⟨v1, hv1, hf⟩ := ob hf
            refine t_cv (as := []) (st := []) (rfl : mfetch 59 80 = some (80, .invokevirtual 95, 3, 15, 0, 0)) rfl rfl rfl rfl rfl (ok_H_warmthOfAll isH_11 hv1) ?_
            cases hf; exact mEnds.rt (fun _ => rfl)
          · rw [if_neg hc5] at hf
            by_cases hc6 : x1 = nI 5
            · rw [if_pos hc6] at hf
              refine t_sw hc6 (fun _ _ _ => rfl) (t := 84) ?_
              refine mEnds.stp 1 (pc' := 85) (l' := [some (.ref 10), some (.int x1)]) (st' := [.ref 10]) (fun _ => rfl) ?_
              refine t_gr (rfl : mfetch 59 85 = some (85, .getfield 10, 3, 4, 0, 0)) rfl rfl ?_
              refine t_gi (rfl : mfetch 59 88 = some (88, .getfield 99, 3, 1, 1, 0)) rfl rfl ?_
              cases hf; exact mEnds.rt (fun _ => rfl)
            · rw [if_neg hc6] at hf
              by_cases hc7 : x1 = nI 6
              · rw [if_pos hc7] at hf
                refine t_sw hc7 (fun _ _ _ => rfl) (t := 92) ?_
                refine mEnds.stp 1 (pc' := 93) (l' := [some (.ref 10), some (.int x1)]) (st' := [.ref 10]) (fun _ => rfl) ?_
                refine t_gr (rfl : mfetch 59 93 = some (93, .getfield 10, 3, 4, 0, 0)) rfl rfl ?_
                obtain ⟨v2, hv2, hf⟩ := ob hf
                refine t_cv (as := []) (st := []) (rfl : mfetch 59 96 = some (96, .invokevirtual 102, 3, 14, 0, 0)) rfl rfl rfl rfl rfl ((ok_H_skyNow isH_11 hv2).deep 1) ?_
                cases hf; exact mEnds.rt (fun _ => rfl)
              · rw [if_neg hc7] at hf
                refine t_swD (t := 100) (rfl : mfetch 59 1 = some (1, .tableswitch 99 0 6 #[43, 51, 59, 67, 75, 83, 91], 43, 0, 0, 0)) rfl (sw_out (fun k hk => match k, hk with | 0, _ => hc1 | 1, _ => hc2 | 2, _ => hc3 | 3, _ => hc4 | 4, _ => hc5 | 5, _ => hc6 | 6, _ => hc7 | k + 7, hk => absurd hk (by omega))) ?_
                refine mEnds.stp 1 (pc' := 101) (l' := [some (.ref 10), some (.int x1)]) (st' := [.int (-1)]) (fun _ => rfl) ?_
                cases hf; exact mEnds.rt (fun _ => rfl)
def C_ofTongue (x1 : Int32) (x2 : Int32) (s : sg) : Option Int32 :=
  if x2 = nI 3 then
    (midx x1 6).bind fun j1 =>
    some (s 15 j1)
  else
    if x2 = nI 4 then
      (midx x1 6).bind fun j2 =>
      some (s 16 j2)
    else
      if x2 = nI 5 then
        (H_lowOf 11 x1 s).bind fun v1 =>
        some ((nI 10) + v1)
      else
        (H_highOf 11 x1 s).bind fun v2 =>
        some v2
set_option maxRecDepth 100000 in
theorem ok_C_ofTongue {x1 : Int32} {x2 : Int32} {s : sg} {rv : Int32} (hf : C_ofTongue x1 x2 s = some rv) : mEnds [] 1 61 (0, [some (.ref 10), some (.int x1), some (.int x2)], [], hp shC s, 0, 0) (some (.int rv), hp shC s, 0, 0) := by
  unfold C_ofTongue at hf
  refine mEnds.stp 1 (pc' := 1) (l' := [some (.ref 10), some (.int x1), some (.int x2)]) (st' := [.int x2]) (fun _ => rfl) ?_
  by_cases hc1 : x2 = nI 3
  · rw [if_pos hc1] at hf
    refine t_sw hc1 (fun _ _ _ => rfl) (t := 28) ?_
    refine mEnds.stp 1 (pc' := 29) (l' := [some (.ref 10), some (.int x1), some (.int x2)]) (st' := [.ref 10]) (fun _ => rfl) ?_
    refine t_gr (rfl : mfetch 61 29 = some (29, .getfield 10, 3, 4, 0, 0)) rfl rfl ?_
    refine t_gr (rfl : mfetch 61 32 = some (32, .getfield 128, 3, 1, 8, 0)) rfl rfl ?_
    refine mEnds.stp 1 (pc' := 36) (l' := [some (.ref 10), some (.int x1), some (.int x2)]) (st' := [.int x1, .ref 15]) (fun _ => rfl) ?_
    obtain ⟨j1, hj1, hf⟩ := ob hf
    refine t_ia (rfl : mfetch 61 36 = some (36, .iaload, 1, 0, 0, 0)) rfl rfl hj1 ?_
    cases hf; exact mEnds.rt (fun _ => rfl)
  · rw [if_neg hc1] at hf
    by_cases hc2 : x2 = nI 4
    · rw [if_pos hc2] at hf
      refine t_sw hc2 (fun _ _ _ => rfl) (t := 38) ?_
      refine mEnds.stp 1 (pc' := 39) (l' := [some (.ref 10), some (.int x1), some (.int x2)]) (st' := [.ref 10]) (fun _ => rfl) ?_
      refine t_gr (rfl : mfetch 61 39 = some (39, .getfield 10, 3, 4, 0, 0)) rfl rfl ?_
      refine t_gr (rfl : mfetch 61 42 = some (42, .getfield 131, 3, 1, 9, 0)) rfl rfl ?_
      refine mEnds.stp 1 (pc' := 46) (l' := [some (.ref 10), some (.int x1), some (.int x2)]) (st' := [.int x1, .ref 16]) (fun _ => rfl) ?_
      obtain ⟨j2, hj2, hf⟩ := ob hf
      refine t_ia (rfl : mfetch 61 46 = some (46, .iaload, 1, 0, 0, 0)) rfl rfl hj2 ?_
      cases hf; exact mEnds.rt (fun _ => rfl)
    · rw [if_neg hc2] at hf
      by_cases hc3 : x2 = nI 5
      · rw [if_pos hc3] at hf
        refine t_sw hc3 (fun _ _ _ => rfl) (t := 48) ?_
        refine mEnds.stp 2 (pc' := 51) (l' := [some (.ref 10), some (.int x1), some (.int x2)]) (st' := [.ref 10, .int (nI 10)]) (fun _ => rfl) ?_
        refine t_gr (rfl : mfetch 61 51 = some (51, .getfield 10, 3, 4, 0, 0)) rfl rfl ?_
        refine mEnds.stp 1 (pc' := 55) (l' := [some (.ref 10), some (.int x1), some (.int x2)]) (st' := [.int x1, .ref 11, .int (nI 10)]) (fun _ => rfl) ?_
        obtain ⟨v1, hv1, hf⟩ := ob hf
        refine t_cv (as := [.int x1]) (st := [.int (nI 10)]) (rfl : mfetch 61 55 = some (55, .invokevirtual 134, 3, 12, 0, 0)) rfl rfl rfl rfl rfl (ok_H_lowOf isH_11 hv1) ?_
        refine mEnds.stp 1 (pc' := 59) (l' := [some (.ref 10), some (.int x1), some (.int x2)]) (st' := [.int ((nI 10) + v1)]) (fun _ => rfl) ?_
        cases hf; exact mEnds.rt (fun _ => rfl)
      · rw [if_neg hc3] at hf
        refine t_swD (t := 60) (rfl : mfetch 61 1 = some (1, .tableswitch 59 3 5 #[27, 37, 47], 27, 0, 0, 0)) rfl (sw_out (fun k hk => match k, hk with | 0, _ => hc1 | 1, _ => hc2 | 2, _ => hc3 | k + 3, hk => absurd hk (by omega))) ?_
        refine mEnds.stp 1 (pc' := 61) (l' := [some (.ref 10), some (.int x1), some (.int x2)]) (st' := [.ref 10]) (fun _ => rfl) ?_
        refine t_gr (rfl : mfetch 61 61 = some (61, .getfield 10, 3, 4, 0, 0)) rfl rfl ?_
        refine mEnds.stp 1 (pc' := 65) (l' := [some (.ref 10), some (.int x1), some (.int x2)]) (st' := [.int x1, .ref 11]) (fun _ => rfl) ?_
        obtain ⟨v2, hv2, hf⟩ := ob hf
        refine t_cv (as := [.int x1]) (st := []) (rfl : mfetch 61 65 = some (65, .invokevirtual 138, 3, 13, 0, 0)) rfl rfl rfl rfl rfl (ok_H_highOf isH_11 hv2) ?_
        cases hf; exact mEnds.rt (fun _ => rfl)
