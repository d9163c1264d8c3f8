def M_readOut_2 : Nat → Int32 → sg → Option sg
  | 0, _, _ => none
  | fu + 1, x1, s =>
  if s 10 10 = 0 then
    if s 10 14 = nI 2 then
      if x1 = nI 8 then
        (M_fails (nI 5) s).bind fun s2 =>
        some s2
      else
        (M_number (nI 0) (nI 99) s).bind fun v1 =>
        (midx ((nI 41) + x1) 52).bind fun j1 =>
        (some (up v1.2 12 j1 (v1.1 - (nI 10)))).bind fun s1 =>
        M_readOut_2 fu (x1 + (nI 1)) s1
    else
      some s
  else
    some s
set_option maxRecDepth 100000 in
theorem ok_M_readOut_2 : ∀ (fu : Nat) (x1 : Int32) (s : sg) (rv : sg), M_readOut_2 fu x1 s = some rv → mEnds [] 3 121 (2, [some (.ref 10), some (.int x1)], [], hp shM s, 0, 0) (none, hp shM rv, 0, 0)
  | 0, _, _, _, hf => by cases hf
  | fu + 1, x1, s, rv, hf => by
    rw [M_readOut_2] at hf
    refine mEnds.stp 1 (pc' := 3) (l' := [some (.ref 10), some (.int x1)]) (st' := [.ref 10]) (fun _ => rfl) ?_
    refine t_gi (rfl : mfetch 121 3 = some (3, .getfield 57, 3, 5, 10, 0)) rfl rfl ?_
    by_cases hc1 : s 10 10 = 0
    · rw [if_pos hc1] at hf
      refine t_jF (rfl : mfetch 121 6 = some (6, .ifCond .ne 48, 3, 0, 0, 0)) (k_ne' hc1) ?_
      refine mEnds.stp 1 (pc' := 10) (l' := [some (.ref 10), some (.int x1)]) (st' := [.ref 10]) (fun _ => rfl) ?_
      refine t_gi (rfl : mfetch 121 10 = some (10, .getfield 66, 3, 5, 14, 0)) rfl rfl ?_
      refine mEnds.stp 1 (pc' := 14) (l' := [some (.ref 10), some (.int x1)]) (st' := [.int (nI 2), .int (s 10 14)]) (fun _ => rfl) ?_
      by_cases hc2 : s 10 14 = nI 2
      · rw [if_pos hc2] at hf
        refine t_cF (rfl : mfetch 121 14 = some (14, .if_icmp .ne 40, 3, 0, 0, 0)) (k_ne' hc2) ?_
        refine mEnds.stp 2 (pc' := 20) (l' := [some (.ref 10), some (.int x1)]) (st' := [.int (nI 8), .int x1]) (fun _ => rfl) ?_
        by_cases hc3 : x1 = nI 8
        · rw [if_pos hc3] at hf
          refine t_cF (rfl : mfetch 121 20 = some (20, .if_icmp .ne 9, 3, 0, 0, 0)) (k_ne' hc3) ?_
          refine mEnds.stp 2 (pc' := 25) (l' := [some (.ref 10), some (.int x1)]) (st' := [.int (nI 5), .ref 10]) (fun _ => rfl) ?_
          obtain ⟨s2, hs2, hf⟩ := ob hf
          refine t_cv (as := [.int (nI 5)]) (st := []) (rfl : mfetch 121 25 = some (25, .invokevirtual 87, 3, 115, 0, 0)) rfl rfl rfl rfl rfl ((ok_M_fails hs2).deep 2) ?_
          cases hf; exact mEnds.rt (fun _ => rfl)
        · rw [if_neg hc3] at hf
          refine t_cT (t := 29) (rfl : mfetch 121 20 = some (20, .if_icmp .ne 9, 3, 0, 0, 0)) rfl (k_ne hc3) ?_
          refine mEnds.stp 1 (pc' := 30) (l' := [some (.ref 10), some (.int x1)]) (st' := [.ref 10]) (fun _ => rfl) ?_
          refine t_gr (rfl : mfetch 121 30 = some (30, .getfield 13, 3, 5, 2, 0)) rfl rfl ?_
          refine mEnds.stp 6 (pc' := 41) (l' := [some (.ref 10), some (.int x1)]) (st' := [.int (nI 99), .int (nI 0), .ref 10, .int ((nI 41) + x1), .ref 12]) (fun _ => rfl) ?_
          obtain ⟨v1, hv1, hf⟩ := ob hf
          refine t_cv (as := [.int (nI 0), .int (nI 99)]) (st := [.int ((nI 41) + x1), .ref 12]) (rfl : mfetch 121 41 = some (41, .invokevirtual 96, 3, 118, 0, 0)) rfl rfl rfl rfl rfl (ok_M_number hv1) ?_
          refine mEnds.stp 2 (pc' := 47) (l' := [some (.ref 10), some (.int x1)]) (st' := [.int (v1.1 - (nI 10)), .int ((nI 41) + x1), .ref 12]) (fun _ => rfl) ?_
          obtain ⟨j1, hj1, hf⟩ := ob hf
          obtain ⟨s1, hs1, hf⟩ := ob hf
          refine t_is (rfl : mfetch 121 47 = some (47, .iastore, 1, 0, 0, 0)) rfl rfl hj1 hs1 ?_
          refine mEnds.stp 2 (pc' := 2) (l' := [some (.ref 10), some (.int (x1 + (nI 1)))]) (st' := []) (fun _ => rfl) ?_
          refine mEnds.cut (l := [some (.ref 10), some (.int (x1 + (nI 1)))]) ⟨rfl, ⟨rfl, trivial⟩⟩ ?_
          exact ok_M_readOut_2 fu (x1 + (nI 1)) s1 _ hf
      · rw [if_neg hc2] at hf
        refine t_cT (t := 54) (rfl : mfetch 121 14 = some (14, .if_icmp .ne 40, 3, 0, 0, 0)) rfl (k_ne hc2) ?_
        cases hf; exact mEnds.rt (fun _ => rfl)
    · rw [if_neg hc1] at hf
      refine t_jT (t := 54) (rfl : mfetch 121 6 = some (6, .ifCond .ne 48, 3, 0, 0, 0)) rfl (k_ne hc1) ?_
      cases hf; exact mEnds.rt (fun _ => rfl)
def M_readOut (s : sg) : Option sg :=
  M_readOut_2 FU (nI 0) s
set_option maxRecDepth 100000 in
theorem ok_M_readOut {s : sg} {rv : sg} (hf : M_readOut s = some rv) : mEnds [] 3 121 (0, [some (.ref 10), none], [], hp shM s, 0, 0) (none, hp shM rv, 0, 0) := by
  unfold M_readOut at hf
  refine mEnds.stp 2 (pc' := 2) (l' := [some (.ref 10), some (.int (nI 0))]) (st' := []) (fun _ => rfl) ?_
  refine mEnds.cut (l := [some (.ref 10), some (.int (nI 0))]) ⟨rfl, ⟨rfl, trivial⟩⟩ ?_
  exact ok_M_readOut_2 FU (nI 0) s _ hf
def M_readMore (x1 : Int32) (s : sg) : Option sg :=
  if nI 3 < x1 then
    if x1 = nI 4 then
      (M_number (nI 0) (nI 99) s).bind fun v3 =>
      (midx (s 10 3) 52).bind fun j1 =>
      (some (up v3.2 12 j1 v3.1)).bind fun s3 =>
      (M_number (nI 0) (nI 9) s3).bind fun v4 =>
      (midx ((nI 6) + (s3 10 3)) 52).bind fun j2 =>
      (some (up v4.2 12 j2 v4.1)).bind fun s4 =>
      (M_number (nI 0) (nI 9) s4).bind fun v5 =>
      (midx ((nI 12) + (s4 10 3)) 52).bind fun j3 =>
      (some (up v5.2 12 j3 v5.1)).bind fun s5 =>
      (some (up s5 10 3 ((s5 10 3) + (nI 1)))).bind fun s6 =>
      some s6
    else
      if x1 = nI 5 then
        (M_readWall s).bind fun s2 =>
        some s2
      else
        (M_readOut s).bind fun s1 =>
        some s1
  else
    (M_readTongue x1 s).bind fun s7 =>
    some s7
set_option maxRecDepth 100000 in
theorem ok_M_readMore {x1 : Int32} {s : sg} {rv : sg} (hf : M_readMore x1 s = some rv) : mEnds [] 4 122 (0, [some (.ref 10), some (.int x1)], [], hp shM s, 0, 0) (none, hp shM rv, 0, 0) := by
  unfold M_readMore at hf
  refine mEnds.stp 2 (pc' := 2) (l' := [some (.ref 10), some (.int x1)]) (st' := [.int (nI 3), .int x1]) (fun _ => rfl) ?_
  by_cases hc1 : nI 3 < x1
  · rw [if_pos hc1] at hf
    refine t_cT (t := 13) (rfl : mfetch 122 2 = some (2, .if_icmp .gt 11, 3, 0, 0, 0)) rfl (k_gt hc1) ?_
    refine mEnds.stp 2 (pc' := 15) (l' := [some (.ref 10), some (.int x1)]) (st' := [.int (nI 4), .int x1]) (fun _ => rfl) ?_
    by_cases hc2 : x1 = nI 4
    · rw [if_pos hc2] at hf
      refine t_cF (rfl : mfetch 122 15 = some (15, .if_icmp .ne 70, 3, 0, 0, 0)) (k_ne' hc2) ?_
      refine mEnds.stp 1 (pc' := 19) (l' := [some (.ref 10), some (.int x1)]) (st' := [.ref 10]) (fun _ => rfl) ?_
      refine t_gr (rfl : mfetch 122 19 = some (19, .getfield 13, 3, 5, 2, 0)) rfl rfl ?_
      refine mEnds.stp 1 (pc' := 23) (l' := [some (.ref 10), some (.int x1)]) (st' := [.ref 10, .ref 12]) (fun _ => rfl) ?_
      refine t_gi (rfl : mfetch 122 23 = some (23, .getfield 111, 3, 5, 3, 0)) rfl rfl ?_
      refine mEnds.stp 3 (pc' := 30) (l' := [some (.ref 10), some (.int x1)]) (st' := [.int (nI 99), .int (nI 0), .ref 10, .int (s 10 3), .ref 12]) (fun _ => rfl) ?_
      obtain ⟨v3, hv3, hf⟩ := ob hf
      refine t_cv (as := [.int (nI 0), .int (nI 99)]) (st := [.int (s 10 3), .ref 12]) (rfl : mfetch 122 30 = some (30, .invokevirtual 96, 3, 118, 0, 0)) rfl rfl rfl rfl rfl ((ok_M_number hv3).deep 1) ?_
      obtain ⟨j1, hj1, hf⟩ := ob hf
      obtain ⟨s3, hs3, hf⟩ := ob hf
      refine t_is (rfl : mfetch 122 33 = some (33, .iastore, 1, 0, 0, 0)) rfl rfl hj1 hs3 ?_
      refine mEnds.stp 1 (pc' := 35) (l' := [some (.ref 10), some (.int x1)]) (st' := [.ref 10]) (fun _ => rfl) ?_
      refine t_gr (rfl : mfetch 122 35 = some (35, .getfield 13, 3, 5, 2, 0)) rfl rfl ?_
      refine mEnds.stp 2 (pc' := 41) (l' := [some (.ref 10), some (.int x1)]) (st' := [.ref 10, .int (nI 6), .ref 12]) (fun _ => rfl) ?_
      refine t_gi (rfl : mfetch 122 41 = some (41, .getfield 111, 3, 5, 3, 0)) rfl rfl ?_
      refine mEnds.stp 4 (pc' := 49) (l' := [some (.ref 10), some (.int x1)]) (st' := [.int (nI 9), .int (nI 0), .ref 10, .int ((nI 6) + (s3 10 3)), .ref 12]) (fun _ => rfl) ?_
      obtain ⟨v4, hv4, hf⟩ := ob hf
      refine t_cv (as := [.int (nI 0), .int (nI 9)]) (st := [.int ((nI 6) + (s3 10 3)), .ref 12]) (rfl : mfetch 122 49 = some (49, .invokevirtual 96, 3, 118, 0, 0)) rfl rfl rfl rfl rfl ((ok_M_number hv4).deep 1) ?_
      obtain ⟨j2, hj2, hf⟩ := ob hf
      obtain ⟨s4, hs4, hf⟩ := ob hf
      refine t_is (rfl : mfetch 122 52 = some (52, .iastore, 1, 0, 0, 0)) rfl rfl hj2 hs4 ?_
      refine mEnds.stp 1 (pc' := 54) (l' := [some (.ref 10), some (.int x1)]) (st' := [.ref 10]) (fun _ => rfl) ?_
      refine t_gr (rfl : mfetch 122 54 = some (54, .getfield 13, 3, 5, 2, 0)) rfl rfl ?_
      refine mEnds.stp 2 (pc' := 60) (l' := [some (.ref 10), some (.int x1)]) (st' := [.ref 10, .int (nI 12), .ref 12]) (fun _ => rfl) ?_
      refine t_gi (rfl : mfetch 122 60 = some (60, .getfield 111, 3, 5, 3, 0)) rfl rfl ?_
      refine mEnds.stp 4 (pc' := 68) (l' := [some (.ref 10), some (.int x1)]) (st' := [.int (nI 9), .int (nI 0), .ref 10, .int ((nI 12) + (s4 10 3)), .ref 12]) (fun _ => rfl) ?_
      obtain ⟨v5, hv5, hf⟩ := ob hf
      refine t_cv (as := [.int (nI 0), .int (nI 9)]) (st := [.int ((nI 12) + (s4 10 3)), .ref 12]) (rfl : mfetch 122 68 = some (68, .invokevirtual 96, 3, 118, 0, 0)) rfl rfl rfl rfl rfl ((ok_M_number hv5).deep 1) ?_
      obtain ⟨j3, hj3, hf⟩ := ob hf
      obtain ⟨s5, hs5, hf⟩ := ob hf
      refine t_is (rfl : mfetch 122 71 = some (71, .iastore, 1, 0, 0, 0)) rfl rfl hj3 hs5 ?_
      refine mEnds.stp 2 (pc' := 74) (l' := [some (.ref 10), some (.int x1)]) (st' := [.ref 10, .ref 10]) (fun _ => rfl) ?_
      refine t_gi (rfl : mfetch 122 74 = some (74, .getfield 111, 3, 5, 3, 0)) rfl rfl ?_
      refine mEnds.stp 2 (pc' := 79) (l' := [some (.ref 10), some (.int x1)]) (st' := [.int ((s5 10 3) + (nI 1)), .ref 10]) (fun _ => rfl) ?_
      obtain ⟨s6, hs6, hf⟩ := ob hf
      refine t_pi (rfl : mfetch 122 79 = some (79, .putfield 111, 3, 5, 3, 0)) rfl rfl rfl rfl hs6 ?_
      refine mEnds.stp 1 (pc' := 101) (l' := [some (.ref 10), some (.int x1)]) (st' := []) (fun _ => rfl) ?_
      cases hf; exact mEnds.rt (fun _ => rfl)
    · rw [if_neg hc2] at hf
      refine t_cT (t := 85) (rfl : mfetch 122 15 = some (15, .if_icmp .ne 70, 3, 0, 0, 0)) rfl (k_ne hc2) ?_
      refine mEnds.stp 2 (pc' := 87) (l' := [some (.ref 10), some (.int x1)]) (st' := [.int (nI 5), .int x1]) (fun _ => rfl) ?_
      by_cases hc3 : x1 = nI 5
      · rw [if_pos hc3] at hf
        refine t_cF (rfl : mfetch 122 87 = some (87, .if_icmp .ne 10, 3, 0, 0, 0)) (k_ne' hc3) ?_
        refine mEnds.stp 1 (pc' := 91) (l' := [some (.ref 10), some (.int x1)]) (st' := [.ref 10]) (fun _ => rfl) ?_
        obtain ⟨s2, hs2, hf⟩ := ob hf
        refine t_cv (as := []) (st := []) (rfl : mfetch 122 91 = some (91, .invokevirtual 114, 3, 120, 0, 0)) rfl rfl rfl rfl rfl (ok_M_readWall hs2) ?_
        refine mEnds.stp 1 (pc' := 101) (l' := [some (.ref 10), some (.int x1)]) (st' := []) (fun _ => rfl) ?_
        cases hf; exact mEnds.rt (fun _ => rfl)
      · rw [if_neg hc3] at hf
        refine t_cT (t := 97) (rfl : mfetch 122 87 = some (87, .if_icmp .ne 10, 3, 0, 0, 0)) rfl (k_ne hc3) ?_
        refine mEnds.stp 1 (pc' := 98) (l' := [some (.ref 10), some (.int x1)]) (st' := [.ref 10]) (fun _ => rfl) ?_
        obtain ⟨s1, hs1, hf⟩ := ob hf
        refine t_cv (as := []) (st := []) (rfl : mfetch 122 98 = some (98, .invokevirtual 117, 3, 121, 0, 0)) rfl rfl rfl rfl rfl (ok_M_readOut hs1) ?_
        cases hf; exact mEnds.rt (fun _ => rfl)
  · rw [if_neg hc1] at hf
    refine t_cF (rfl : mfetch 122 2 = some (2, .if_icmp .gt 11, 3, 0, 0, 0)) (k_gt' hc1) ?_
    refine mEnds.stp 2 (pc' := 7) (l' := [some (.ref 10), some (.int x1)]) (st' := [.int x1, .ref 10]) (fun _ => rfl) ?_
    obtain ⟨s7, hs7, hf⟩ := ob hf
    refine t_cv (as := [.int x1]) (st := []) (rfl : mfetch 122 7 = some (7, .invokevirtual 108, 3, 119, 0, 0)) rfl rfl rfl rfl rfl (ok_M_readTongue hs7) ?_
    refine mEnds.stp 1 (pc' := 101) (l' := [some (.ref 10), some (.int x1)]) (st' := []) (fun _ => rfl) ?_
    cases hf; exact mEnds.rt (fun _ => rfl)
def M_readLine_119 (s : sg) : Option sg :=
  (M_step s).bind fun s1 =>
  some s1
set_option maxRecDepth 100000 in
theorem ok_M_readLine_119 {s : sg} {rv : sg} (hf : M_readLine_119 s = some rv) : mEnds [] 5 123 (119, [some (.ref 10), none], [], hp shM s, 0, 0) (none, hp shM rv, 0, 0) := by
  unfold M_readLine_119 at hf
  refine mEnds.stp 1 (pc' := 120) (l' := [some (.ref 10), none]) (st' := [.ref 10]) (fun _ => rfl) ?_
  obtain ⟨s1, hs1, hf⟩ := ob hf
  refine t_cv (as := []) (st := []) (rfl : mfetch 123 120 = some (120, .invokevirtual 91, 3, 117, 0, 0)) rfl rfl rfl rfl rfl ((ok_M_step hs1).deep 3) ?_
  cases hf; exact mEnds.rt (fun _ => rfl)
def M_readLine_79 (x1 : Int32) (y0 : Int32) (s : sg) : Option sg :=
  if y0 = 0 ∨ y0 = 1 then
    (some (up s 10 5 y0)).bind fun s1 =>
    (M_step s1).bind fun s2 =>
    if 0 < s2 10 10 then
      some s2
    else
      (M_readMore x1 s2).bind fun s3 =>
      if s3 10 10 = 0 then
        if s3 10 14 = nI 3 then
          M_readLine_119 s3
        else
          (M_fails (nI 2) s3).bind fun s4 =>
          M_readLine_119 s4
      else
        M_readLine_119 s3
  else none
set_option maxRecDepth 100000 in
theorem ok_M_readLine_79 {x1 : Int32} {y0 : Int32} {s : sg} {rv : sg} (hf : M_readLine_79 x1 y0 s = some rv) : mEnds [] 5 123 (79, [some (.ref 10), some (.int x1)], [.int y0, .ref 10], hp shM s, 0, 0) (none, hp shM rv, 0, 0) := by
  unfold M_readLine_79 at hf
  by_cases hc1 : y0 = 0 ∨ y0 = 1
  · rw [if_pos hc1] at hf
    obtain ⟨s1, hs1, hf⟩ := ob hf
    refine t_pi (rfl : mfetch 123 79 = some (79, .putfield 126, 3, 5, 5, 0)) rfl rfl rfl (z01 hc1) hs1 ?_
    refine mEnds.stp 1 (pc' := 83) (l' := [some (.ref 10), some (.int x1)]) (st' := [.ref 10]) (fun _ => rfl) ?_
    obtain ⟨s2, hs2, hf⟩ := ob hf
    refine t_cv (as := []) (st := []) (rfl : mfetch 123 83 = some (83, .invokevirtual 91, 3, 117, 0, 0)) rfl rfl rfl rfl rfl ((ok_M_step hs2).deep 3) ?_
    refine mEnds.stp 1 (pc' := 87) (l' := [some (.ref 10), some (.int x1)]) (st' := [.ref 10]) (fun _ => rfl) ?_
    refine t_gi (rfl : mfetch 123 87 = some (87, .getfield 57, 3, 5, 10, 0)) rfl rfl ?_
    by_cases hc2 : 0 < s2 10 10
    · rw [if_pos hc2] at hf
      refine t_jF (rfl : mfetch 123 90 = some (90, .ifCond .le 4, 3, 0, 0, 0)) (k_le' hc2) ?_
      cases hf; exact mEnds.rt (fun _ => rfl)
    · rw [if_neg hc2] at hf
      refine t_jT (t := 94) (rfl : mfetch 123 90 = some (90, .ifCond .le 4, 3, 0, 0, 0)) rfl (k_le hc2) ?_
      refine mEnds.stp 2 (pc' := 96) (l' := [some (.ref 10), some (.int x1)]) (st' := [.int x1, .ref 10]) (fun _ => rfl) ?_
      obtain ⟨s3, hs3, hf⟩ := ob hf
      refine t_cv (as := [.int x1]) (st := []) (rfl : mfetch 123 96 = some (96, .invokevirtual 130, 3, 122, 0, 0)) rfl rfl rfl rfl rfl (ok_M_readMore hs3) ?_
      refine mEnds.stp 1 (pc' := 100) (l' := [some (.ref 10), some (.int x1)]) (st' := [.ref 10]) (fun _ => rfl) ?_
      refine t_gi (rfl : mfetch 123 100 = some (100, .getfield 57, 3, 5, 10, 0)) rfl rfl ?_
      by_cases hc3 : s3 10 10 = 0
      · rw [if_pos hc3] at hf
        refine t_jF (rfl : mfetch 123 103 = some (103, .ifCond .ne 16, 3, 0, 0, 0)) (k_ne' hc3) ?_
        refine mEnds.stp 1 (pc' := 107) (l' := [some (.ref 10), some (.int x1)]) (st' := [.ref 10]) (fun _ => rfl) ?_
        refine t_gi (rfl : mfetch 123 107 = some (107, .getfield 66, 3, 5, 14, 0)) rfl rfl ?_
        refine mEnds.stp 1 (pc' := 111) (l' := [some (.ref 10), some (.int x1)]) (st' := [.int (nI 3), .int (s3 10 14)]) (fun _ => rfl) ?_
        by_cases hc4 : s3 10 14 = nI 3
        · rw [if_pos hc4] at hf
          refine t_cT (t := 119) (rfl : mfetch 123 111 = some (111, .if_icmp .eq 8, 3, 0, 0, 0)) rfl (k_eq hc4) ?_
          refine mEnds.cut (l := [some (.ref 10), none]) ⟨rfl, trivial⟩ ?_
          exact ok_M_readLine_119 hf
        · rw [if_neg hc4] at hf
          refine t_cF (rfl : mfetch 123 111 = some (111, .if_icmp .eq 8, 3, 0, 0, 0)) (k_eq' hc4) ?_
          refine mEnds.stp 2 (pc' := 116) (l' := [some (.ref 10), some (.int x1)]) (st' := [.int (nI 2), .ref 10]) (fun _ => rfl) ?_
          obtain ⟨s4, hs4, hf⟩ := ob hf
          refine t_cv (as := [.int (nI 2)]) (st := []) (rfl : mfetch 123 116 = some (116, .invokevirtual 87, 3, 115, 0, 0)) rfl rfl rfl rfl rfl ((ok_M_fails hs4).deep 4) ?_
          refine mEnds.cut (l := [some (.ref 10), none]) ⟨rfl, trivial⟩ ?_
          exact ok_M_readLine_119 hf
      · rw [if_neg hc3] at hf
        refine t_jT (t := 119) (rfl : mfetch 123 103 = some (103, .ifCond .ne 16, 3, 0, 0, 0)) rfl (k_ne hc3) ?_
        refine mEnds.cut (l := [some (.ref 10), none]) ⟨rfl, trivial⟩ ?_
        exact ok_M_readLine_119 hf
  · rw [if_neg hc1] at hf; cases hf
def M_readLine_74 (x1 : Int32) (s : sg) : Option sg :=
  M_readLine_79 x1 (nI 1) s
set_option maxRecDepth 100000 in
theorem ok_M_readLine_74 {x1 : Int32} {s : sg} {rv : sg} (hf : M_readLine_74 x1 s = some rv) : mEnds [] 5 123 (74, [some (.ref 10), some (.int x1)], [.ref 10], hp shM s, 0, 0) (none, hp shM rv, 0, 0) := by
  unfold M_readLine_74 at hf
  refine mEnds.stp 2 (pc' := 79) (l' := [some (.ref 10), some (.int x1)]) (st' := [.int (nI 1), .ref 10]) (fun _ => rfl) ?_
  refine mEnds.cut (l := [some (.ref 10), some (.int x1)]) ⟨rfl, ⟨rfl, trivial⟩⟩ ?_
  exact ok_M_readLine_79 hf
def M_readLine_60 (x1 : Int32) (s : sg) : Option sg :=
  if s 10 5 = 0 then
    if x1 = nI 6 then
      M_readLine_74 x1 s
    else
      M_readLine_79 x1 (nI 0) s
  else
    M_readLine_74 x1 s
set_option maxRecDepth 100000 in
theorem ok_M_readLine_60 {x1 : Int32} {s : sg} {rv : sg} (hf : M_readLine_60 x1 s = some rv) : mEnds [] 5 123 (60, [some (.ref 10), some (.int x1)], [], hp shM s, 0, 0) (none, hp shM rv, 0, 0) := by
  unfold M_readLine_60 at hf
  refine mEnds.stp 2 (pc' := 62) (l' := [some (.ref 10), some (.int x1)]) (st' := [.ref 10, .ref 10]) (fun _ => rfl) ?_
  refine t_gi (rfl : mfetch 123 62 = some (62, .getfield 126, 3, 5, 5, 0)) rfl rfl ?_
  by_cases hc1 : s 10 5 = 0
  · rw [if_pos hc1] at hf
    refine t_jF (rfl : mfetch 123 65 = some (65, .ifCond .ne 9, 3, 0, 0, 0)) (k_ne' hc1) ?_
    refine mEnds.stp 2 (pc' := 71) (l' := [some (.ref 10), some (.int x1)]) (st' := [.int (nI 6), .int x1, .ref 10]) (fun _ => rfl) ?_
    by_cases hc2 : x1 = nI 6
    · rw [if_pos hc2] at hf
      refine t_cF (rfl : mfetch 123 71 = some (71, .if_icmp .ne 7, 3, 0, 0, 0)) (k_ne' hc2) ?_
      refine mEnds.cut (l := [some (.ref 10), some (.int x1)]) ⟨rfl, ⟨rfl, trivial⟩⟩ ?_
      exact ok_M_readLine_74 hf
    · rw [if_neg hc2] at hf
      refine t_cT (t := 78) (rfl : mfetch 123 71 = some (71, .if_icmp .ne 7, 3, 0, 0, 0)) rfl (k_ne hc2) ?_
      refine mEnds.stp 1 (pc' := 79) (l' := [some (.ref 10), some (.int x1)]) (st' := [.int (nI 0), .ref 10]) (fun _ => rfl) ?_
      refine mEnds.cut (l := [some (.ref 10), some (.int x1)]) ⟨rfl, ⟨rfl, trivial⟩⟩ ?_
      exact ok_M_readLine_79 hf
  · rw [if_neg hc1] at hf
    refine t_jT (t := 74) (rfl : mfetch 123 65 = some (65, .ifCond .ne 9, 3, 0, 0, 0)) rfl (k_ne hc1) ?_
    refine mEnds.cut (l := [some (.ref 10), some (.int x1)]) ⟨rfl, ⟨rfl, trivial⟩⟩ ?_
    exact ok_M_readLine_74 hf
def M_readLine_42 (x1 : Int32) (s : sg) : Option sg :=
  if x1 = nI 6 then
    if s 10 5 = 0 then
      M_readLine_60 x1 s
    else
      (M_fails (nI 4) s).bind fun s1 =>
      M_readLine_60 x1 s1
  else
    M_readLine_60 x1 s
set_option maxRecDepth 100000 in
theorem ok_M_readLine_42 {x1 : Int32} {s : sg} {rv : sg} (hf : M_readLine_42 x1 s = some rv) : mEnds [] 5 123 (42, [some (.ref 10), some (.int x1)], [], hp shM s, 0, 0) (none, hp shM rv, 0, 0) := by
  unfold M_readLine_42 at hf
  refine mEnds.stp 2 (pc' := 45) (l' := [some (.ref 10), some (.int x1)]) (st' := [.int (nI 6), .int x1]) (fun _ => rfl) ?_
  by_cases hc1 : x1 = nI 6
  · rw [if_pos hc1] at hf
    refine t_cF (rfl : mfetch 123 45 = some (45, .if_icmp .ne 15, 3, 0, 0, 0)) (k_ne' hc1) ?_
    refine mEnds.stp 1 (pc' := 49) (l' := [some (.ref 10), some (.int x1)]) (st' := [.ref 10]) (fun _ => rfl) ?_
    refine t_gi (rfl : mfetch 123 49 = some (49, .getfield 126, 3, 5, 5, 0)) rfl rfl ?_
    by_cases hc2 : s 10 5 = 0
    · rw [if_pos hc2] at hf
      refine t_jT (t := 60) (rfl : mfetch 123 52 = some (52, .ifCond .eq 8, 3, 0, 0, 0)) rfl (k_eq hc2) ?_
      refine mEnds.cut (l := [some (.ref 10), some (.int x1)]) ⟨rfl, ⟨rfl, trivial⟩⟩ ?_
      exact ok_M_readLine_60 hf
    · rw [if_neg hc2] at hf
      refine t_jF (rfl : mfetch 123 52 = some (52, .ifCond .eq 8, 3, 0, 0, 0)) (k_eq' hc2) ?_
      refine mEnds.stp 2 (pc' := 57) (l' := [some (.ref 10), some (.int x1)]) (st' := [.int (nI 4), .ref 10]) (fun _ => rfl) ?_
      obtain ⟨s1, hs1, hf⟩ := ob hf
      refine t_cv (as := [.int (nI 4)]) (st := []) (rfl : mfetch 123 57 = some (57, .invokevirtual 87, 3, 115, 0, 0)) rfl rfl rfl rfl rfl ((ok_M_fails hs1).deep 4) ?_
      refine mEnds.cut (l := [some (.ref 10), some (.int x1)]) ⟨rfl, ⟨rfl, trivial⟩⟩ ?_
      exact ok_M_readLine_60 hf
  · rw [if_neg hc1] at hf
    refine t_cT (t := 60) (rfl : mfetch 123 45 = some (45, .if_icmp .ne 15, 3, 0, 0, 0)) rfl (k_ne hc1) ?_
    refine mEnds.cut (l := [some (.ref 10), some (.int x1)]) ⟨rfl, ⟨rfl, trivial⟩⟩ ?_
    exact ok_M_readLine_60 hf
def M_readLine (s : sg) : Option sg :=
  (M_nameHere s).bind fun v1 =>
  (M_in v1.toInt64 (0 : Int64) (6 : Int64) s).bind fun v2 =>
  if v2 = 0 then
    (M_fails (nI 2) s).bind fun s2 =>
    some s2
  else
    if v1 = nI 4 then
      if s 10 3 = nI 6 then
        (M_fails (nI 5) s).bind fun s1 =>
        M_readLine_42 v1 s1
      else
        M_readLine_42 v1 s
    else
      M_readLine_42 v1 s
set_option maxRecDepth 100000 in
theorem ok_M_readLine {s : sg} {rv : sg} (hf : M_readLine s = some rv) : mEnds [] 5 123 (0, [some (.ref 10), none], [], hp shM s, 0, 0) (none, hp shM rv, 0, 0) := by
  unfold M_readLine at hf
  refine mEnds.stp 1 (pc' := 1) (l' := [some (.ref 10), none]) (st' := [.ref 10]) (fun _ => rfl) ?_
  obtain ⟨v1, hv1, hf⟩ := ob hf
  refine t_cv (as := []) (st := []) (rfl : mfetch 123 1 = some (1, .invokevirtual 120, 3, 116, 0, 0)) rfl rfl rfl rfl rfl ((ok_M_nameHere hv1).deep 3) ?_
  refine mEnds.stp 5 (pc' := 11) (l' := [some (.ref 10), some (.int v1)]) (st' := [.long (6 : Int64), .long (0 : Int64), .long v1.toInt64]) (fun _ => rfl) ?_
  obtain ⟨v2, hv2, hf⟩ := ob hf
  refine t_cs (as := [.long v1.toInt64, .long (0 : Int64), .long (6 : Int64)]) (st := []) (Or.inl rfl) (rfl : mfetch 123 11 = some (11, .invokestatic 49, 3, 111, 0, 0)) rfl rfl rfl ((ok_M_in hv2).deep 4) ?_
  by_cases hc1 : v2 = 0
  · rw [if_pos hc1] at hf
    refine t_jF (rfl : mfetch 123 14 = some (14, .ifCond .ne 9, 3, 0, 0, 0)) (k_ne' hc1) ?_
    refine mEnds.stp 2 (pc' := 19) (l' := [some (.ref 10), some (.int v1)]) (st' := [.int (nI 2), .ref 10]) (fun _ => rfl) ?_
    obtain ⟨s2, hs2, hf⟩ := ob hf
    refine t_cv (as := [.int (nI 2)]) (st := []) (rfl : mfetch 123 19 = some (19, .invokevirtual 87, 3, 115, 0, 0)) rfl rfl rfl rfl rfl ((ok_M_fails hs2).deep 4) ?_
    cases hf; exact mEnds.rt (fun _ => rfl)
  · rw [if_neg hc1] at hf
    refine t_jT (t := 23) (rfl : mfetch 123 14 = some (14, .ifCond .ne 9, 3, 0, 0, 0)) rfl (k_ne hc1) ?_
    refine mEnds.stp 2 (pc' := 25) (l' := [some (.ref 10), some (.int v1)]) (st' := [.int (nI 4), .int v1]) (fun _ => rfl) ?_
    by_cases hc2 : v1 = nI 4
    · rw [if_pos hc2] at hf
      refine t_cF (rfl : mfetch 123 25 = some (25, .if_icmp .ne 17, 3, 0, 0, 0)) (k_ne' hc2) ?_
      refine mEnds.stp 1 (pc' := 29) (l' := [some (.ref 10), some (.int v1)]) (st' := [.ref 10]) (fun _ => rfl) ?_
      refine t_gi (rfl : mfetch 123 29 = some (29, .getfield 111, 3, 5, 3, 0)) rfl rfl ?_
      refine mEnds.stp 1 (pc' := 34) (l' := [some (.ref 10), some (.int v1)]) (st' := [.int (nI 6), .int (s 10 3)]) (fun _ => rfl) ?_
      by_cases hc3 : s 10 3 = nI 6
      · rw [if_pos hc3] at hf
        refine t_cF (rfl : mfetch 123 34 = some (34, .if_icmp .ne 8, 3, 0, 0, 0)) (k_ne' hc3) ?_
        refine mEnds.stp 2 (pc' := 39) (l' := [some (.ref 10), some (.int v1)]) (st' := [.int (nI 5), .ref 10]) (fun _ => rfl) ?_
        obtain ⟨s1, hs1, hf⟩ := ob hf
        refine t_cv (as := [.int (nI 5)]) (st := []) (rfl : mfetch 123 39 = some (39, .invokevirtual 87, 3, 115, 0, 0)) rfl rfl rfl rfl rfl ((ok_M_fails hs1).deep 4) ?_
        refine mEnds.cut (l := [some (.ref 10), some (.int v1)]) ⟨rfl, ⟨rfl, trivial⟩⟩ ?_
        exact ok_M_readLine_42 hf
      · rw [if_neg hc3] at hf
        refine t_cT (t := 42) (rfl : mfetch 123 34 = some (34, .if_icmp .ne 8, 3, 0, 0, 0)) rfl (k_ne hc3) ?_
        refine mEnds.cut (l := [some (.ref 10), some (.int v1)]) ⟨rfl, ⟨rfl, trivial⟩⟩ ?_
        exact ok_M_readLine_42 hf
    · rw [if_neg hc2] at hf
      refine t_cT (t := 42) (rfl : mfetch 123 25 = some (25, .if_icmp .ne 17, 3, 0, 0, 0)) rfl (k_ne hc2) ?_
      refine mEnds.cut (l := [some (.ref 10), some (.int v1)]) ⟨rfl, ⟨rfl, trivial⟩⟩ ?_
      exact ok_M_readLine_42 hf
def M_text_135 (x1 : Int32) : Nat → Int32 → sg → Option (Int32 × sg)
  | 0, _, _ => none
  | fu + 1, x2, s =>
  if x2 < nI 52 then
    (midx x2 52).bind fun j3 =>
    (midx x2 312).bind fun j4 =>
    (some (up s 11 j4 (s 12 j3))).bind fun s5 =>
    M_text_135 x1 fu (x2 + (nI 1)) s5
  else
    (some (up s 10 1 (s 10 3))).bind fun s1 =>
    (some (up s1 10 22 (nI 0))).bind fun s2 =>
    (midx (nI 0) 2).bind fun j1 =>
    (some (up s2 19 j1 (vp_nar .boolean (nI 0)))).bind fun s3 =>
    (midx (nI 1) 2).bind fun j2 =>
    (some (up s3 19 j2 (vp_nar .boolean (nI 0)))).bind fun s4 =>
    some (x1, s4)
set_option maxRecDepth 100000 in
theorem ok_M_text_135 {x1 : Int32} : ∀ (fu : Nat) (x2 : Int32) (s : sg) (rv : (Int32 × sg)), M_text_135 x1 fu x2 s = some rv → mEnds [] 6 124 (135, [some (.ref 10), some (.int x1), some (.int x2)], [], hp shM s, 0, 0) (some (.int rv.1), hp shM rv.2, 0, 0)
  | 0, _, _, _, hf => by cases hf
  | fu + 1, x2, s, rv, hf => by
    rw [M_text_135] at hf
    refine mEnds.stp 2 (pc' := 138) (l' := [some (.ref 10), some (.int x1), some (.int x2)]) (st' := [.int (nI 52), .int x2]) (fun _ => rfl) ?_
    by_cases hc1 : x2 < nI 52
    · rw [if_pos hc1] at hf
      refine t_cF (rfl : mfetch 124 138 = some (138, .if_icmp .ge 21, 3, 0, 0, 0)) (k_ge' hc1) ?_
      refine mEnds.stp 1 (pc' := 142) (l' := [some (.ref 10), some (.int x1), some (.int x2)]) (st' := [.ref 10]) (fun _ => rfl) ?_
      refine t_gr (rfl : mfetch 124 142 = some (142, .getfield 7, 3, 5, 0, 0)) rfl rfl ?_
      refine mEnds.stp 2 (pc' := 147) (l' := [some (.ref 10), some (.int x1), some (.int x2)]) (st' := [.ref 10, .int x2, .ref 11]) (fun _ => rfl) ?_
      refine t_gr (rfl : mfetch 124 147 = some (147, .getfield 13, 3, 5, 2, 0)) rfl rfl ?_
      refine mEnds.stp 1 (pc' := 151) (l' := [some (.ref 10), some (.int x1), some (.int x2)]) (st' := [.int x2, .ref 12, .int x2, .ref 11]) (fun _ => rfl) ?_
      obtain ⟨j3, hj3, hf⟩ := ob hf
      refine t_ia (rfl : mfetch 124 151 = some (151, .iaload, 1, 0, 0, 0)) rfl rfl hj3 ?_
      obtain ⟨j4, hj4, hf⟩ := ob hf
      obtain ⟨s5, hs5, hf⟩ := ob hf
      refine t_is (rfl : mfetch 124 152 = some (152, .iastore, 1, 0, 0, 0)) rfl rfl hj4 hs5 ?_
      refine mEnds.stp 2 (pc' := 135) (l' := [some (.ref 10), some (.int x1), some (.int (x2 + (nI 1)))]) (st' := []) (fun _ => rfl) ?_
      refine mEnds.cut (l := [some (.ref 10), some (.int x1), some (.int (x2 + (nI 1)))]) ⟨rfl, ⟨rfl, ⟨rfl, trivial⟩⟩⟩ ?_
      exact ok_M_text_135 fu (x2 + (nI 1)) s5 _ hf
    · rw [if_neg hc1] at hf
      refine t_cT (t := 159) (rfl : mfetch 124 138 = some (138, .if_icmp .ge 21, 3, 0, 0, 0)) rfl (k_ge hc1) ?_
      refine mEnds.stp 2 (pc' := 161) (l' := [some (.ref 10), some (.int x1), some (.int x2)]) (st' := [.ref 10, .ref 10]) (fun _ => rfl) ?_
      refine t_gi (rfl : mfetch 124 161 = some (161, .getfield 111, 3, 5, 3, 0)) rfl rfl ?_
      obtain ⟨s1, hs1, hf⟩ := ob hf
      refine t_pi (rfl : mfetch 124 164 = some (164, .putfield 139, 3, 5, 1, 0)) rfl rfl rfl rfl hs1 ?_
      refine mEnds.stp 2 (pc' := 169) (l' := [some (.ref 10), some (.int x1), some (.int x2)]) (st' := [.int (nI 0), .ref 10]) (fun _ => rfl) ?_
      obtain ⟨s2, hs2, hf⟩ := ob hf
      refine t_pi (rfl : mfetch 124 169 = some (169, .putfield 142, 3, 5, 22, 0)) rfl rfl rfl rfl hs2 ?_
      refine mEnds.stp 1 (pc' := 173) (l' := [some (.ref 10), some (.int x1), some (.int x2)]) (st' := [.ref 10]) (fun _ => rfl) ?_
      refine t_gr (rfl : mfetch 124 173 = some (173, .getfield 34, 3, 5, 24, 0)) rfl rfl ?_
      refine mEnds.stp 2 (pc' := 178) (l' := [some (.ref 10), some (.int x1), some (.int x2)]) (st' := [.int (nI 0), .int (nI 0), .ref 19]) (fun _ => rfl) ?_
      obtain ⟨j1, hj1, hf⟩ := ob hf
      obtain ⟨s3, hs3, hf⟩ := ob hf
      refine t_zs (rfl : mfetch 124 178 = some (178, .bastore, 1, 0, 0, 0)) rfl rfl hj1 hs3 ?_
      refine mEnds.stp 1 (pc' := 180) (l' := [some (.ref 10), some (.int x1), some (.int x2)]) (st' := [.ref 10]) (fun _ => rfl) ?_
      refine t_gr (rfl : mfetch 124 180 = some (180, .getfield 34, 3, 5, 24, 0)) rfl rfl ?_
      refine mEnds.stp 2 (pc' := 185) (l' := [some (.ref 10), some (.int x1), some (.int x2)]) (st' := [.int (nI 0), .int (nI 1), .ref 19]) (fun _ => rfl) ?_
      obtain ⟨j2, hj2, hf⟩ := ob hf
      obtain ⟨s4, hs4, hf⟩ := ob hf
      refine t_zs (rfl : mfetch 124 185 = some (185, .bastore, 1, 0, 0, 0)) rfl rfl hj2 hs4 ?_
      refine mEnds.stp 1 (pc' := 187) (l' := [some (.ref 10), some (.int x1), some (.int x2)]) (st' := [.int x1]) (fun _ => rfl) ?_
      exact mEnds.rti (Option.some.inj hf) (fun _ => rfl)
def M_text_105 (x1 : Int32) (s : sg) : Option (Int32 × sg) :=
  (some (up s 10 8 (nI 0))).bind fun s1 =>
  (some (up s1 10 9 (s1 10 10))).bind fun s2 =>
  if 0 < s2 10 10 then
    some ((-10) - (s2 10 11), s2)
  else
    M_text_135 x1 FU (nI 0) s2
set_option maxRecDepth 100000 in
theorem ok_M_text_105 {x1 : Int32} {s : sg} {rv : (Int32 × sg)} (hf : M_text_105 x1 s = some rv) : mEnds [] 6 124 (105, [some (.ref 10), some (.int x1), none], [], hp shM s, 0, 0) (some (.int rv.1), hp shM rv.2, 0, 0) := by
  unfold M_text_105 at hf
  refine mEnds.stp 2 (pc' := 107) (l' := [some (.ref 10), some (.int x1), none]) (st' := [.int (nI 0), .ref 10]) (fun _ => rfl) ?_
  obtain ⟨s1, hs1, hf⟩ := ob hf
  refine t_pi (rfl : mfetch 124 107 = some (107, .putfield 53, 3, 5, 8, 0)) rfl rfl rfl rfl hs1 ?_
  refine mEnds.stp 2 (pc' := 112) (l' := [some (.ref 10), some (.int x1), none]) (st' := [.ref 10, .ref 10]) (fun _ => rfl) ?_
  refine t_gi (rfl : mfetch 124 112 = some (112, .getfield 57, 3, 5, 10, 0)) rfl rfl ?_
  obtain ⟨s2, hs2, hf⟩ := ob hf
  refine t_pi (rfl : mfetch 124 115 = some (115, .putfield 136, 3, 5, 9, 0)) rfl rfl rfl rfl hs2 ?_
  refine mEnds.stp 1 (pc' := 119) (l' := [some (.ref 10), some (.int x1), none]) (st' := [.ref 10]) (fun _ => rfl) ?_
  refine t_gi (rfl : mfetch 124 119 = some (119, .getfield 57, 3, 5, 10, 0)) rfl rfl ?_
  by_cases hc1 : 0 < s2 10 10
  · rw [if_pos hc1] at hf
    refine t_jF (rfl : mfetch 124 122 = some (122, .ifCond .le 11, 3, 0, 0, 0)) (k_le' hc1) ?_
    refine mEnds.stp 2 (pc' := 128) (l' := [some (.ref 10), some (.int x1), none]) (st' := [.ref 10, .int (-10)]) (fun _ => rfl) ?_
    refine t_gi (rfl : mfetch 124 128 = some (128, .getfield 63, 3, 5, 11, 0)) rfl rfl ?_
    refine mEnds.stp 1 (pc' := 132) (l' := [some (.ref 10), some (.int x1), none]) (st' := [.int ((-10) - (s2 10 11))]) (fun _ => rfl) ?_
    exact mEnds.rti (Option.some.inj hf) (fun _ => rfl)
  · rw [if_neg hc1] at hf
    refine t_jT (t := 133) (rfl : mfetch 124 122 = some (122, .ifCond .le 11, 3, 0, 0, 0)) rfl (k_le hc1) ?_
    refine mEnds.stp 2 (pc' := 135) (l' := [some (.ref 10), some (.int x1), some (.int (nI 0))]) (st' := []) (fun _ => rfl) ?_
    refine mEnds.cut (l := [some (.ref 10), some (.int x1), some (.int (nI 0))]) ⟨rfl, ⟨rfl, ⟨rfl, trivial⟩⟩⟩ ?_
    exact ok_M_text_135 FU (nI 0) s2 _ hf
def M_text_81 (x1 : Int32) (s : sg) : Option (Int32 × sg) :=
  if s 10 10 = 0 then
    if s 10 6 < s 10 3 then
      M_text_105 x1 s
    else
      (M_fails (nI 6) s).bind fun s1 =>
      M_text_105 x1 s1
  else
    M_text_105 x1 s
set_option maxRecDepth 100000 in
theorem ok_M_text_81 {x1 : Int32} {s : sg} {rv : (Int32 × sg)} (hf : M_text_81 x1 s = some rv) : mEnds [] 6 124 (81, [some (.ref 10), some (.int x1), none], [], hp shM s, 0, 0) (some (.int rv.1), hp shM rv.2, 0, 0) := by
  unfold M_text_81 at hf
  refine mEnds.stp 1 (pc' := 82) (l' := [some (.ref 10), some (.int x1), none]) (st' := [.ref 10]) (fun _ => rfl) ?_
  refine t_gi (rfl : mfetch 124 82 = some (82, .getfield 57, 3, 5, 10, 0)) rfl rfl ?_
  by_cases hc1 : s 10 10 = 0
  · rw [if_pos hc1] at hf
    refine t_jF (rfl : mfetch 124 85 = some (85, .ifCond .ne 20, 3, 0, 0, 0)) (k_ne' hc1) ?_
    refine mEnds.stp 1 (pc' := 89) (l' := [some (.ref 10), some (.int x1), none]) (st' := [.ref 10]) (fun _ => rfl) ?_
    refine t_gi (rfl : mfetch 124 89 = some (89, .getfield 100, 3, 5, 6, 0)) rfl rfl ?_
    refine mEnds.stp 1 (pc' := 93) (l' := [some (.ref 10), some (.int x1), none]) (st' := [.ref 10, .int (s 10 6)]) (fun _ => rfl) ?_
    refine t_gi (rfl : mfetch 124 93 = some (93, .getfield 111, 3, 5, 3, 0)) rfl rfl ?_
    by_cases hc2 : s 10 6 < s 10 3
    · rw [if_pos hc2] at hf
      refine t_cT (t := 105) (rfl : mfetch 124 96 = some (96, .if_icmp .lt 9, 3, 0, 0, 0)) rfl (k_lt hc2) ?_
      refine mEnds.cut (l := [some (.ref 10), some (.int x1), none]) ⟨rfl, ⟨rfl, trivial⟩⟩ ?_
      exact ok_M_text_105 hf
    · rw [if_neg hc2] at hf
      refine t_cF (rfl : mfetch 124 96 = some (96, .if_icmp .lt 9, 3, 0, 0, 0)) (k_lt' hc2) ?_
      refine mEnds.stp 2 (pc' := 102) (l' := [some (.ref 10), some (.int x1), none]) (st' := [.int (nI 6), .ref 10]) (fun _ => rfl) ?_
      obtain ⟨s1, hs1, hf⟩ := ob hf
      refine t_cv (as := [.int (nI 6)]) (st := []) (rfl : mfetch 124 102 = some (102, .invokevirtual 87, 3, 115, 0, 0)) rfl rfl rfl rfl rfl ((ok_M_fails hs1).deep 5) ?_
      refine mEnds.cut (l := [some (.ref 10), some (.int x1), none]) ⟨rfl, ⟨rfl, trivial⟩⟩ ?_
      exact ok_M_text_105 hf
  · rw [if_neg hc1] at hf
    refine t_jT (t := 105) (rfl : mfetch 124 85 = some (85, .ifCond .ne 20, 3, 0, 0, 0)) rfl (k_ne hc1) ?_
    refine mEnds.cut (l := [some (.ref 10), some (.int x1), none]) ⟨rfl, ⟨rfl, trivial⟩⟩ ?_
    exact ok_M_text_105 hf
def M_text_57 : Nat → Int32 → sg → Option (Int32 × sg)
  | 0, _, _ => none
  | fu + 1, x1, s =>
  if s 10 10 = 0 then
    if s 10 14 = 0 then
      M_text_81 x1 s
    else
      (M_readLine s).bind fun s1 =>
      M_text_57 fu (x1 + (nI 1)) s1
  else
    M_text_81 x1 s
set_option maxRecDepth 100000 in
theorem ok_M_text_57 : ∀ (fu : Nat) (x1 : Int32) (s : sg) (rv : (Int32 × sg)), M_text_57 fu x1 s = some rv → mEnds [] 6 124 (57, [some (.ref 10), some (.int x1), none], [], hp shM s, 0, 0) (some (.int rv.1), hp shM rv.2, 0, 0)
  | 0, _, _, _, hf => by cases hf
  | fu + 1, x1, s, rv, hf => by
    rw [M_text_57] at hf
    refine mEnds.stp 1 (pc' := 58) (l' := [some (.ref 10), some (.int x1), none]) (st' := [.ref 10]) (fun _ => rfl) ?_
    refine t_gi (rfl : mfetch 124 58 = some (58, .getfield 57, 3, 5, 10, 0)) rfl rfl ?_
    by_cases hc1 : s 10 10 = 0
    · rw [if_pos hc1] at hf
      refine t_jF (rfl : mfetch 124 61 = some (61, .ifCond .ne 20, 3, 0, 0, 0)) (k_ne' hc1) ?_
      refine mEnds.stp 1 (pc' := 65) (l' := [some (.ref 10), some (.int x1), none]) (st' := [.ref 10]) (fun _ => rfl) ?_
      refine t_gi (rfl : mfetch 124 65 = some (65, .getfield 66, 3, 5, 14, 0)) rfl rfl ?_
      by_cases hc2 : s 10 14 = 0
      · rw [if_pos hc2] at hf
        refine t_jT (t := 81) (rfl : mfetch 124 68 = some (68, .ifCond .eq 13, 3, 0, 0, 0)) rfl (k_eq hc2) ?_
        refine mEnds.cut (l := [some (.ref 10), some (.int x1), none]) ⟨rfl, ⟨rfl, trivial⟩⟩ ?_
        exact ok_M_text_81 hf
      · rw [if_neg hc2] at hf
        refine t_jF (rfl : mfetch 124 68 = some (68, .ifCond .eq 13, 3, 0, 0, 0)) (k_eq' hc2) ?_
        refine mEnds.stp 1 (pc' := 72) (l' := [some (.ref 10), some (.int x1), none]) (st' := [.ref 10]) (fun _ => rfl) ?_
        obtain ⟨s1, hs1, hf⟩ := ob hf
        refine t_cv (as := []) (st := []) (rfl : mfetch 124 72 = some (72, .invokevirtual 133, 3, 123, 0, 0)) rfl rfl rfl rfl rfl (ok_M_readLine hs1) ?_
        refine mEnds.stp 2 (pc' := 57) (l' := [some (.ref 10), some (.int (x1 + (nI 1))), none]) (st' := []) (fun _ => rfl) ?_
        refine mEnds.cut (l := [some (.ref 10), some (.int (x1 + (nI 1))), none]) ⟨rfl, ⟨rfl, trivial⟩⟩ ?_
        exact ok_M_text_57 fu (x1 + (nI 1)) s1 _ hf
    · rw [if_neg hc1] at hf
      refine t_jT (t := 81) (rfl : mfetch 124 61 = some (61, .ifCond .ne 20, 3, 0, 0, 0)) rfl (k_ne hc1) ?_
      refine mEnds.cut (l := [some (.ref 10), some (.int x1), none]) ⟨rfl, ⟨rfl, trivial⟩⟩ ?_
      exact ok_M_text_81 hf
def M_text_34 (x1 : Int32) : Nat → Int32 → sg → Option (Int32 × sg)
  | 0, _, _ => none
  | fu + 1, x2, s =>
  if x2 < nI 52 then
    (midx x2 52).bind fun j1 =>
    (some (up s 12 j1 (nI 0))).bind fun s2 =>
    M_text_34 x1 fu (x2 + (nI 1)) s2
  else
    (M_step s).bind fun s1 =>
    M_text_57 FU x1 s1
set_option maxRecDepth 100000 in
theorem ok_M_text_34 {x1 : Int32} : ∀ (fu : Nat) (x2 : Int32) (s : sg) (rv : (Int32 × sg)), M_text_34 x1 fu x2 s = some rv → mEnds [] 6 124 (34, [some (.ref 10), some (.int x1), some (.int x2)], [], hp shM s, 0, 0) (some (.int rv.1), hp shM rv.2, 0, 0)
  | 0, _, _, _, hf => by cases hf
  | fu + 1, x2, s, rv, hf => by
    rw [M_text_34] at hf
    refine mEnds.stp 2 (pc' := 37) (l' := [some (.ref 10), some (.int x1), some (.int x2)]) (st' := [.int (nI 52), .int x2]) (fun _ => rfl) ?_
    by_cases hc1 : x2 < nI 52
    · rw [if_pos hc1] at hf
      refine t_cF (rfl : mfetch 124 37 = some (37, .if_icmp .ge 16, 3, 0, 0, 0)) (k_ge' hc1) ?_
      refine mEnds.stp 1 (pc' := 41) (l' := [some (.ref 10), some (.int x1), some (.int x2)]) (st' := [.ref 10]) (fun _ => rfl) ?_
      refine t_gr (rfl : mfetch 124 41 = some (41, .getfield 13, 3, 5, 2, 0)) rfl rfl ?_
      refine mEnds.stp 2 (pc' := 46) (l' := [some (.ref 10), some (.int x1), some (.int x2)]) (st' := [.int (nI 0), .int x2, .ref 12]) (fun _ => rfl) ?_
      obtain ⟨j1, hj1, hf⟩ := ob hf
      obtain ⟨s2, hs2, hf⟩ := ob hf
      refine t_is (rfl : mfetch 124 46 = some (46, .iastore, 1, 0, 0, 0)) rfl rfl hj1 hs2 ?_
      refine mEnds.stp 2 (pc' := 34) (l' := [some (.ref 10), some (.int x1), some (.int (x2 + (nI 1)))]) (st' := []) (fun _ => rfl) ?_
      refine mEnds.cut (l := [some (.ref 10), some (.int x1), some (.int (x2 + (nI 1)))]) ⟨rfl, ⟨rfl, ⟨rfl, trivial⟩⟩⟩ ?_
      exact ok_M_text_34 fu (x2 + (nI 1)) s2 _ hf
    · rw [if_neg hc1] at hf
      refine t_cT (t := 53) (rfl : mfetch 124 37 = some (37, .if_icmp .ge 16, 3, 0, 0, 0)) rfl (k_ge hc1) ?_
      refine mEnds.stp 1 (pc' := 54) (l' := [some (.ref 10), some (.int x1), some (.int x2)]) (st' := [.ref 10]) (fun _ => rfl) ?_
      obtain ⟨s1, hs1, hf⟩ := ob hf
      refine t_cv (as := []) (st := []) (rfl : mfetch 124 54 = some (54, .invokevirtual 91, 3, 117, 0, 0)) rfl rfl rfl rfl rfl ((ok_M_step hs1).deep 4) ?_
      refine mEnds.cut (l := [some (.ref 10), some (.int x1), none]) ⟨rfl, ⟨rfl, trivial⟩⟩ ?_
      exact ok_M_text_57 FU x1 s1 _ hf
def M_text (s : sg) : Option (Int32 × sg) :=
  (some (up s 10 10 (nI 0))).bind fun s1 =>
  (some (up s1 10 12 (nI 0))).bind fun s2 =>
  (some (up s2 10 3 (nI 0))).bind fun s3 =>
  (some (up s3 10 4 (nI 0))).bind fun s4 =>
  (some (up s4 10 5 (nI 0))).bind fun s5 =>
  (some (up s5 10 6 (-1))).bind fun s6 =>
  M_text_34 (nI 0) FU (nI 0) s6
set_option maxRecDepth 100000 in
theorem ok_M_text {s : sg} {rv : (Int32 × sg)} (hf : M_text s = some rv) : mEnds [] 6 124 (0, [some (.ref 10), none, none], [], hp shM s, 0, 0) (some (.int rv.1), hp shM rv.2, 0, 0) := by
  unfold M_text at hf
  refine mEnds.stp 2 (pc' := 2) (l' := [some (.ref 10), none, none]) (st' := [.int (nI 0), .ref 10]) (fun _ => rfl) ?_
  obtain ⟨s1, hs1, hf⟩ := ob hf
  refine t_pi (rfl : mfetch 124 2 = some (2, .putfield 57, 3, 5, 10, 0)) rfl rfl rfl rfl hs1 ?_
  refine mEnds.stp 2 (pc' := 7) (l' := [some (.ref 10), none, none]) (st' := [.int (nI 0), .ref 10]) (fun _ => rfl) ?_
  obtain ⟨s2, hs2, hf⟩ := ob hf
  refine t_pi (rfl : mfetch 124 7 = some (7, .putfield 69, 3, 5, 12, 0)) rfl rfl rfl rfl hs2 ?_
  refine mEnds.stp 2 (pc' := 12) (l' := [some (.ref 10), none, none]) (st' := [.int (nI 0), .ref 10]) (fun _ => rfl) ?_
  obtain ⟨s3, hs3, hf⟩ := ob hf
  refine t_pi (rfl : mfetch 124 12 = some (12, .putfield 111, 3, 5, 3, 0)) rfl rfl rfl rfl hs3 ?_
  refine mEnds.stp 2 (pc' := 17) (l' := [some (.ref 10), none, none]) (st' := [.int (nI 0), .ref 10]) (fun _ => rfl) ?_
  obtain ⟨s4, hs4, hf⟩ := ob hf
  refine t_pi (rfl : mfetch 124 17 = some (17, .putfield 105, 3, 5, 4, 0)) rfl rfl rfl rfl hs4 ?_
  refine mEnds.stp 2 (pc' := 22) (l' := [some (.ref 10), none, none]) (st' := [.int (nI 0), .ref 10]) (fun _ => rfl) ?_
  obtain ⟨s5, hs5, hf⟩ := ob hf
  refine t_pi (rfl : mfetch 124 22 = some (22, .putfield 126, 3, 5, 5, 0)) rfl rfl rfl rfl hs5 ?_
  refine mEnds.stp 2 (pc' := 27) (l' := [some (.ref 10), none, none]) (st' := [.int (-1), .ref 10]) (fun _ => rfl) ?_
  obtain ⟨s6, hs6, hf⟩ := ob hf
  refine t_pi (rfl : mfetch 124 27 = some (27, .putfield 100, 3, 5, 6, 0)) rfl rfl rfl rfl hs6 ?_
  refine mEnds.stp 4 (pc' := 34) (l' := [some (.ref 10), some (.int (nI 0)), some (.int (nI 0))]) (st' := []) (fun _ => rfl) ?_
  refine mEnds.cut (l := [some (.ref 10), some (.int (nI 0)), some (.int (nI 0))]) ⟨rfl, ⟨rfl, ⟨rfl, trivial⟩⟩⟩ ?_
  exact ok_M_text_34 FU (nI 0) s6 _ hf
def M_fault (s : sg) : Option Int32 :=
  some (s 10 9)
set_option maxRecDepth 100000 in
theorem ok_M_fault {s : sg} {rv : Int32} (hf : M_fault s = some rv) : mEnds [] 0 125 (0, [some (.ref 10)], [], hp shM s, 0, 0) (some (.int rv), hp shM s, 0, 0) := by
  unfold M_fault at hf
  refine mEnds.stp 1 (pc' := 1) (l' := [some (.ref 10)]) (st' := [.ref 10]) (fun _ => rfl) ?_
  refine t_gi (rfl : mfetch 125 1 = some (1, .getfield 136, 3, 5, 9, 0)) rfl rfl ?_
  cases hf; exact mEnds.rt (fun _ => rfl)
def M_isRoom (x1 : Int32) (s : sg) : Option Int32 :=
  (M_in x1.toInt64 (0 : Int64) (((s 10 1) - (nI 1)).toInt64) s).bind fun v1 =>
  if v1 = 0 ∨ v1 = 1 then some v1 else none
set_option maxRecDepth 100000 in
theorem ok_M_isRoom {x1 : Int32} {s : sg} {rv : Int32} (hf : M_isRoom x1 s = some rv) : mEnds [] 1 126 (0, [some (.ref 10), some (.int x1)], [], hp shM s, 0, 0) (some (.int rv), hp shM s, 0, 0) := by
  unfold M_isRoom at hf
  refine mEnds.stp 4 (pc' := 4) (l' := [some (.ref 10), some (.int x1)]) (st' := [.ref 10, .long (0 : Int64), .long x1.toInt64]) (fun _ => rfl) ?_
  refine t_gi (rfl : mfetch 126 4 = some (4, .getfield 139, 3, 5, 1, 0)) rfl rfl ?_
  refine mEnds.stp 3 (pc' := 10) (l' := [some (.ref 10), some (.int x1)]) (st' := [.long (((s 10 1) - (nI 1)).toInt64), .long (0 : Int64), .long x1.toInt64]) (fun _ => rfl) ?_
  obtain ⟨v1, hv1, hf⟩ := ob hf
  refine t_cs (as := [.long x1.toInt64, .long (0 : Int64), .long (((s 10 1) - (nI 1)).toInt64)]) (st := []) (Or.inl rfl) (rfl : mfetch 126 10 = some (10, .invokestatic 49, 3, 111, 0, 0)) rfl rfl rfl (ok_M_in hv1) ?_
  by_cases hc1 : v1 = 0 ∨ v1 = 1
  · rw [if_pos hc1] at hf; cases hf; exact t_zr (rfl : mfetch 126 13 = some (13, .ireturn, 1, 0, 0, 0)) rfl hc1
  · rw [if_neg hc1] at hf; cases hf
def M_isWall (x1 : Int32) (s : sg) : Option Int32 :=
  (M_in x1.toInt64 (0 : Int64) (((s 10 1) - (nI 2)).toInt64) s).bind fun v1 =>
  if v1 = 0 ∨ v1 = 1 then some v1 else none
set_option maxRecDepth 100000 in
theorem ok_M_isWall {x1 : Int32} {s : sg} {rv : Int32} (hf : M_isWall x1 s = some rv) : mEnds [] 1 127 (0, [some (.ref 10), some (.int x1)], [], hp shM s, 0, 0) (some (.int rv), hp shM s, 0, 0) := by
  unfold M_isWall at hf
  refine mEnds.stp 4 (pc' := 4) (l' := [some (.ref 10), some (.int x1)]) (st' := [.ref 10, .long (0 : Int64), .long x1.toInt64]) (fun _ => rfl) ?_
  refine t_gi (rfl : mfetch 127 4 = some (4, .getfield 139, 3, 5, 1, 0)) rfl rfl ?_
  refine mEnds.stp 3 (pc' := 10) (l' := [some (.ref 10), some (.int x1)]) (st' := [.long (((s 10 1) - (nI 2)).toInt64), .long (0 : Int64), .long x1.toInt64]) (fun _ => rfl) ?_
  obtain ⟨v1, hv1, hf⟩ := ob hf
  refine t_cs (as := [.long x1.toInt64, .long (0 : Int64), .long (((s 10 1) - (nI 2)).toInt64)]) (st := []) (Or.inl rfl) (rfl : mfetch 127 10 = some (10, .invokestatic 49, 3, 111, 0, 0)) rfl rfl rfl (ok_M_in hv1) ?_
  by_cases hc1 : v1 = 0 ∨ v1 = 1
  · rw [if_pos hc1] at hf; cases hf; exact t_zr (rfl : mfetch 127 13 = some (13, .ireturn, 1, 0, 0, 0)) rfl hc1
  · rw [if_neg hc1] at hf; cases hf
def M_hasTongue (x1 : Int32) (s : sg) : Option Int32 :=
  (midx ((nI 18) + x1) 312).bind fun j1 =>
  if 0 < s 11 j1 then
    some (nI 1)
  else
    some (nI 0)
set_option maxRecDepth 100000 in
theorem ok_M_hasTongue {x1 : Int32} {s : sg} {rv : Int32} (hf : M_hasTongue x1 s = some rv) : mEnds [] 0 128 (0, [some (.ref 10), some (.int x1)], [], hp shM s, 0, 0) (some (.int rv), hp shM s, 0, 0) := by
  unfold M_hasTongue at hf
  refine mEnds.stp 1 (pc' := 1) (l' := [some (.ref 10), some (.int x1)]) (st' := [.ref 10]) (fun _ => rfl) ?_
  refine t_gr (rfl : mfetch 128 1 = some (1, .getfield 7, 3, 5, 0, 0)) rfl rfl ?_
  refine mEnds.stp 3 (pc' := 8) (l' := [some (.ref 10), some (.int x1)]) (st' := [.int ((nI 18) + x1), .ref 11]) (fun _ => rfl) ?_
  obtain ⟨j1, hj1, hf⟩ := ob hf
  refine t_ia (rfl : mfetch 128 8 = some (8, .iaload, 1, 0, 0, 0)) rfl rfl hj1 ?_
  by_cases hc1 : 0 < s 11 j1
  · rw [if_pos hc1] at hf
    refine t_jF (rfl : mfetch 128 9 = some (9, .ifCond .le 7, 3, 0, 0, 0)) (k_le' hc1) ?_
    refine mEnds.stp 2 (pc' := 17) (l' := [some (.ref 10), some (.int x1)]) (st' := [.int (nI 1)]) (fun _ => rfl) ?_
    cases hf; exact mEnds.rt (fun _ => rfl)
  · rw [if_neg hc1] at hf
    refine t_jT (t := 16) (rfl : mfetch 128 9 = some (9, .ifCond .le 7, 3, 0, 0, 0)) rfl (k_le hc1) ?_
    refine mEnds.stp 1 (pc' := 17) (l' := [some (.ref 10), some (.int x1)]) (st' := [.int (nI 0)]) (fun _ => rfl) ?_
    cases hf; exact mEnds.rt (fun _ => rfl)
def M_lowOn (x1 : Int32) (x2 : Int32) (s : sg) : Option Int32 :=
  (midx ((x1 + (nI 18)) + x2) 312).bind fun j1 =>
  (midx ((x1 + (nI 24)) + x2) 312).bind fun j2 =>
  if (s 11 j1) - (nI 1) = 0 then
    some ((s 11 j2) - (nI 2))
  else
    if (s 11 j1) - (nI 1) = nI 1 then
      some ((s 11 j2) - (nI 1))
    else
      some ((s 11 j2) - (nI 5))
set_option maxRecDepth 100000 in
theorem ok_M_lowOn {x1 : Int32} {x2 : Int32} {s : sg} {rv : Int32} (hf : M_lowOn x1 x2 s = some rv) : mEnds [] 0 129 (0, [some (.ref 10), some (.int x1), some (.int x2), none], [], hp shM s, 0, 0) (some (.int rv), hp shM s, 0, 0) := by
  unfold M_lowOn at hf
  refine mEnds.stp 1 (pc' := 1) (l' := [some (.ref 10), some (.int x1), some (.int x2), none]) (st' := [.ref 10]) (fun _ => rfl) ?_
  refine t_gr (rfl : mfetch 129 1 = some (1, .getfield 7, 3, 5, 0, 0)) rfl rfl ?_
  refine mEnds.stp 5 (pc' := 10) (l' := [some (.ref 10), some (.int x1), some (.int x2), none]) (st' := [.int ((x1 + (nI 18)) + x2), .ref 11]) (fun _ => rfl) ?_
  obtain ⟨j1, hj1, hf⟩ := ob hf
  refine t_ia (rfl : mfetch 129 10 = some (10, .iaload, 1, 0, 0, 0)) rfl rfl hj1 ?_
  refine mEnds.stp 4 (pc' := 15) (l' := [some (.ref 10), some (.int x1), some (.int x2), some (.int ((s 11 j1) - (nI 1)))]) (st' := [.ref 10]) (fun _ => rfl) ?_
  refine t_gr (rfl : mfetch 129 15 = some (15, .getfield 7, 3, 5, 0, 0)) rfl rfl ?_
  refine mEnds.stp 5 (pc' := 24) (l' := [some (.ref 10), some (.int x1), some (.int x2), some (.int ((s 11 j1) - (nI 1)))]) (st' := [.int ((x1 + (nI 24)) + x2), .ref 11]) (fun _ => rfl) ?_
  obtain ⟨j2, hj2, hf⟩ := ob hf
  refine t_ia (rfl : mfetch 129 24 = some (24, .iaload, 1, 0, 0, 0)) rfl rfl hj2 ?_
  refine mEnds.stp 1 (pc' := 26) (l' := [some (.ref 10), some (.int x1), some (.int x2), some (.int ((s 11 j1) - (nI 1)))]) (st' := [.int ((s 11 j1) - (nI 1)), .int (s 11 j2)]) (fun _ => rfl) ?_
  by_cases hc1 : (s 11 j1) - (nI 1) = 0
  · rw [if_pos hc1] at hf
    refine t_jF (rfl : mfetch 129 26 = some (26, .ifCond .ne 7, 3, 0, 0, 0)) (k_ne' hc1) ?_
    refine mEnds.stp 3 (pc' := 44) (l' := [some (.ref 10), some (.int x1), some (.int x2), some (.int ((s 11 j1) - (nI 1)))]) (st' := [.int ((s 11 j2) - (nI 2))]) (fun _ => rfl) ?_
    cases hf; exact mEnds.rt (fun _ => rfl)
  · rw [if_neg hc1] at hf
    refine t_jT (t := 33) (rfl : mfetch 129 26 = some (26, .ifCond .ne 7, 3, 0, 0, 0)) rfl (k_ne hc1) ?_
    refine mEnds.stp 2 (pc' := 35) (l' := [some (.ref 10), some (.int x1), some (.int x2), some (.int ((s 11 j1) - (nI 1)))]) (st' := [.int (nI 1), .int ((s 11 j1) - (nI 1)), .int (s 11 j2)]) (fun _ => rfl) ?_
    by_cases hc2 : (s 11 j1) - (nI 1) = nI 1
    · rw [if_pos hc2] at hf
      refine t_cF (rfl : mfetch 129 35 = some (35, .if_icmp .ne 7, 3, 0, 0, 0)) (k_ne' hc2) ?_
      refine mEnds.stp 3 (pc' := 44) (l' := [some (.ref 10), some (.int x1), some (.int x2), some (.int ((s 11 j1) - (nI 1)))]) (st' := [.int ((s 11 j2) - (nI 1))]) (fun _ => rfl) ?_
      cases hf; exact mEnds.rt (fun _ => rfl)
    · rw [if_neg hc2] at hf
      refine t_cT (t := 42) (rfl : mfetch 129 35 = some (35, .if_icmp .ne 7, 3, 0, 0, 0)) rfl (k_ne hc2) ?_
      refine mEnds.stp 2 (pc' := 44) (l' := [some (.ref 10), some (.int x1), some (.int x2), some (.int ((s 11 j1) - (nI 1)))]) (st' := [.int ((s 11 j2) - (nI 5))]) (fun _ => rfl) ?_
      cases hf; exact mEnds.rt (fun _ => rfl)
def M_highOn (x1 : Int32) (x2 : Int32) (s : sg) : Option Int32 :=
  (midx ((x1 + (nI 18)) + x2) 312).bind fun j1 =>
  (midx ((x1 + (nI 24)) + x2) 312).bind fun j2 =>
  if (s 11 j1) - (nI 1) = nI 1 then
    some ((s 11 j2) + (nI 1))
  else
    if (s 11 j1) - (nI 1) = nI 3 then
      some ((s 11 j2) + (nI 4))
    else
      some ((s 11 j2) + (nI 2))
set_option maxRecDepth 100000 in
theorem ok_M_highOn {x1 : Int32} {x2 : Int32} {s : sg} {rv : Int32} (hf : M_highOn x1 x2 s = some rv) : mEnds [] 0 130 (0, [some (.ref 10), some (.int x1), some (.int x2), none], [], hp shM s, 0, 0) (some (.int rv), hp shM s, 0, 0) := by
  unfold M_highOn at hf
  refine mEnds.stp 1 (pc' := 1) (l' := [some (.ref 10), some (.int x1), some (.int x2), none]) (st' := [.ref 10]) (fun _ => rfl) ?_
  refine t_gr (rfl : mfetch 130 1 = some (1, .getfield 7, 3, 5, 0, 0)) rfl rfl ?_
  refine mEnds.stp 5 (pc' := 10) (l' := [some (.ref 10), some (.int x1), some (.int x2), none]) (st' := [.int ((x1 + (nI 18)) + x2), .ref 11]) (fun _ => rfl) ?_
  obtain ⟨j1, hj1, hf⟩ := ob hf
  refine t_ia (rfl : mfetch 130 10 = some (10, .iaload, 1, 0, 0, 0)) rfl rfl hj1 ?_
  refine mEnds.stp 4 (pc' := 15) (l' := [some (.ref 10), some (.int x1), some (.int x2), some (.int ((s 11 j1) - (nI 1)))]) (st' := [.ref 10]) (fun _ => rfl) ?_
  refine t_gr (rfl : mfetch 130 15 = some (15, .getfield 7, 3, 5, 0, 0)) rfl rfl ?_
  refine mEnds.stp 5 (pc' := 24) (l' := [some (.ref 10), some (.int x1), some (.int x2), some (.int ((s 11 j1) - (nI 1)))]) (st' := [.int ((x1 + (nI 24)) + x2), .ref 11]) (fun _ => rfl) ?_
  obtain ⟨j2, hj2, hf⟩ := ob hf
  refine t_ia (rfl : mfetch 130 24 = some (24, .iaload, 1, 0, 0, 0)) rfl rfl hj2 ?_
  refine mEnds.stp 2 (pc' := 27) (l' := [some (.ref 10), some (.int x1), some (.int x2), some (.int ((s 11 j1) - (nI 1)))]) (st' := [.int (nI 1), .int ((s 11 j1) - (nI 1)), .int (s 11 j2)]) (fun _ => rfl) ?_
  by_cases hc1 : (s 11 j1) - (nI 1) = nI 1
  · rw [if_pos hc1] at hf
    refine t_cF (rfl : mfetch 130 27 = some (27, .if_icmp .ne 7, 3, 0, 0, 0)) (k_ne' hc1) ?_
    refine mEnds.stp 3 (pc' := 45) (l' := [some (.ref 10), some (.int x1), some (.int x2), some (.int ((s 11 j1) - (nI 1)))]) (st' := [.int ((s 11 j2) + (nI 1))]) (fun _ => rfl) ?_
    cases hf; exact mEnds.rt (fun _ => rfl)
  · rw [if_neg hc1] at hf
    refine t_cT (t := 34) (rfl : mfetch 130 27 = some (27, .if_icmp .ne 7, 3, 0, 0, 0)) rfl (k_ne hc1) ?_
    refine mEnds.stp 2 (pc' := 36) (l' := [some (.ref 10), some (.int x1), some (.int x2), some (.int ((s 11 j1) - (nI 1)))]) (st' := [.int (nI 3), .int ((s 11 j1) - (nI 1)), .int (s 11 j2)]) (fun _ => rfl) ?_
    by_cases hc2 : (s 11 j1) - (nI 1) = nI 3
    · rw [if_pos hc2] at hf
      refine t_cF (rfl : mfetch 130 36 = some (36, .if_icmp .ne 7, 3, 0, 0, 0)) (k_ne' hc2) ?_
      refine mEnds.stp 3 (pc' := 45) (l' := [some (.ref 10), some (.int x1), some (.int x2), some (.int ((s 11 j1) - (nI 1)))]) (st' := [.int ((s 11 j2) + (nI 4))]) (fun _ => rfl) ?_
      cases hf; exact mEnds.rt (fun _ => rfl)
    · rw [if_neg hc2] at hf
      refine t_cT (t := 43) (rfl : mfetch 130 36 = some (36, .if_icmp .ne 7, 3, 0, 0, 0)) rfl (k_ne hc2) ?_
      refine mEnds.stp 2 (pc' := 45) (l' := [some (.ref 10), some (.int x1), some (.int x2), some (.int ((s 11 j1) - (nI 1)))]) (st' := [.int ((s 11 j2) + (nI 2))]) (fun _ => rfl) ?_
      cases hf; exact mEnds.rt (fun _ => rfl)
def M_tonguesOn_132 (k2 : Int32 → sg → Option sg) (x1 : Int32) (x2 : Int32) (x4 : Int32) (y0 : Int32) (y1 : Int32) (y2 : Int32) (s : sg) : Option sg :=
  (midx y2 312).bind fun j1 =>
  (some (up s 11 j1 (y1 + y0))).bind fun s1 =>
  (midx ((x1 + (nI 30)) + x2) 312).bind fun j2 =>
  (some (up s1 11 j2 x4)).bind fun s2 =>
  k2 (x2 + (nI 1)) s2
set_option maxRecDepth 100000 in
theorem ok_M_tonguesOn_132 {k2 : Int32 → sg → Option sg} {x1 : Int32} {x2 : Int32} {x4 : Int32} {y0 : Int32} {y1 : Int32} {y2 : Int32} {s : sg} {rv : sg} (hk2 : ∀ (x2 : Int32) (s : sg) (rv : sg), k2 x2 s = some rv → mEnds [] 1 131 (2, [some (.ref 10), some (.int x1), some (.int x2), none, none, none], [], hp shM s, 0, 0) (none, hp shM rv, 0, 0)) (hf : M_tonguesOn_132 k2 x1 x2 x4 y0 y1 y2 s = some rv) : mEnds [] 1 131 (132, [some (.ref 10), some (.int x1), some (.int x2), none, some (.int x4), none], [.int y0, .int y1, .int y2, .ref 11], hp shM s, 0, 0) (none, hp shM rv, 0, 0) := by
  unfold M_tonguesOn_132 at hf
  refine mEnds.stp 1 (pc' := 133) (l' := [some (.ref 10), some (.int x1), some (.int x2), none, some (.int x4), none]) (st' := [.int (y1 + y0), .int y2, .ref 11]) (fun _ => rfl) ?_
  obtain ⟨j1, hj1, hf⟩ := ob hf
  obtain ⟨s1, hs1, hf⟩ := ob hf
  refine t_is (rfl : mfetch 131 133 = some (133, .iastore, 1, 0, 0, 0)) rfl rfl hj1 hs1 ?_
  refine mEnds.stp 1 (pc' := 135) (l' := [some (.ref 10), some (.int x1), some (.int x2), none, some (.int x4), none]) (st' := [.ref 10]) (fun _ => rfl) ?_
  refine t_gr (rfl : mfetch 131 135 = some (135, .getfield 7, 3, 5, 0, 0)) rfl rfl ?_
  refine mEnds.stp 6 (pc' := 146) (l' := [some (.ref 10), some (.int x1), some (.int x2), none, some (.int x4), none]) (st' := [.int x4, .int ((x1 + (nI 30)) + x2), .ref 11]) (fun _ => rfl) ?_
  obtain ⟨j2, hj2, hf⟩ := ob hf
  obtain ⟨s2, hs2, hf⟩ := ob hf
  refine t_is (rfl : mfetch 131 146 = some (146, .iastore, 1, 0, 0, 0)) rfl rfl hj2 hs2 ?_
  refine mEnds.stp 2 (pc' := 2) (l' := [some (.ref 10), some (.int x1), some (.int (x2 + (nI 1))), none, some (.int x4), none]) (st' := []) (fun _ => rfl) ?_
  refine mEnds.cut (l := [some (.ref 10), some (.int x1), some (.int (x2 + (nI 1))), none, none, none]) ⟨rfl, ⟨rfl, ⟨rfl, trivial⟩⟩⟩ ?_
  exact hk2 (x2 + (nI 1)) s2 _ hf
def M_tonguesOn_110 (k2 : Int32 → sg → Option sg) (x1 : Int32) (x2 : Int32) (x4 : Int32) (y0 : Int32) (s : sg) : Option sg :=
  (midx (x1 + (nI 51)) 312).bind fun j1 =>
  if y0 = 0 then
    M_tonguesOn_132 k2 x1 x2 x4 (nI 0) (s 11 j1) (x1 + (nI 51)) s
  else
    M_tonguesOn_132 k2 x1 x2 x4 (nI 1) (s 11 j1) (x1 + (nI 51)) s
set_option maxRecDepth 100000 in
theorem ok_M_tonguesOn_110 {k2 : Int32 → sg → Option sg} {x1 : Int32} {x2 : Int32} {x4 : Int32} {y0 : Int32} {s : sg} {rv : sg} (hk2 : ∀ (x2 : Int32) (s : sg) (rv : sg), k2 x2 s = some rv → mEnds [] 1 131 (2, [some (.ref 10), some (.int x1), some (.int x2), none, none, none], [], hp shM s, 0, 0) (none, hp shM rv, 0, 0)) (hf : M_tonguesOn_110 k2 x1 x2 x4 y0 s = some rv) : mEnds [] 1 131 (110, [some (.ref 10), some (.int x1), some (.int x2), none, some (.int x4), none], [.int y0], hp shM s, 0, 0) (none, hp shM rv, 0, 0) := by
  unfold M_tonguesOn_110 at hf
  refine mEnds.stp 2 (pc' := 113) (l' := [some (.ref 10), some (.int x1), some (.int x2), none, some (.int x4), some (.int y0)]) (st' := [.ref 10]) (fun _ => rfl) ?_
  refine t_gr (rfl : mfetch 131 113 = some (113, .getfield 7, 3, 5, 0, 0)) rfl rfl ?_
  refine mEnds.stp 4 (pc' := 121) (l' := [some (.ref 10), some (.int x1), some (.int x2), none, some (.int x4), some (.int y0)]) (st' := [.int (x1 + (nI 51)), .ref 11, .int (x1 + (nI 51)), .ref 11]) (fun _ => rfl) ?_
  obtain ⟨j1, hj1, hf⟩ := ob hf
  refine t_ia (rfl : mfetch 131 121 = some (121, .iaload, 1, 0, 0, 0)) rfl rfl hj1 ?_
  refine mEnds.stp 1 (pc' := 124) (l' := [some (.ref 10), some (.int x1), some (.int x2), none, some (.int x4), some (.int y0)]) (st' := [.int y0, .int (s 11 j1), .int (x1 + (nI 51)), .ref 11]) (fun _ => rfl) ?_
  by_cases hc1 : y0 = 0
  · rw [if_pos hc1] at hf
    refine t_jT (t := 131) (rfl : mfetch 131 124 = some (124, .ifCond .eq 7, 3, 0, 0, 0)) rfl (k_eq hc1) ?_
    refine mEnds.stp 1 (pc' := 132) (l' := [some (.ref 10), some (.int x1), some (.int x2), none, some (.int x4), some (.int y0)]) (st' := [.int (nI 0), .int (s 11 j1), .int (x1 + (nI 51)), .ref 11]) (fun _ => rfl) ?_
    refine mEnds.cut (l := [some (.ref 10), some (.int x1), some (.int x2), none, some (.int x4), none]) ⟨rfl, ⟨rfl, ⟨rfl, ⟨rfl, trivial⟩⟩⟩⟩ ?_
    exact ok_M_tonguesOn_132 hk2 hf
  · rw [if_neg hc1] at hf
    refine t_jF (rfl : mfetch 131 124 = some (124, .ifCond .eq 7, 3, 0, 0, 0)) (k_eq' hc1) ?_
    refine mEnds.stp 2 (pc' := 132) (l' := [some (.ref 10), some (.int x1), some (.int x2), none, some (.int x4), some (.int y0)]) (st' := [.int (nI 1), .int (s 11 j1), .int (x1 + (nI 51)), .ref 11]) (fun _ => rfl) ?_
    refine mEnds.cut (l := [some (.ref 10), some (.int x1), some (.int x2), none, some (.int x4), none]) ⟨rfl, ⟨rfl, ⟨rfl, ⟨rfl, trivial⟩⟩⟩⟩ ?_
    exact ok_M_tonguesOn_132 hk2 hf
def M_tonguesOn_109 (k2 : Int32 → sg → Option sg) (x1 : Int32) (x2 : Int32) (x4 : Int32) (s : sg) : Option sg :=
  M_tonguesOn_110 k2 x1 x2 x4 (nI 0) s
set_option maxRecDepth 100000 in
theorem ok_M_tonguesOn_109 {k2 : Int32 → sg → Option sg} {x1 : Int32} {x2 : Int32} {x4 : Int32} {s : sg} {rv : sg} (hk2 : ∀ (x2 : Int32) (s : sg) (rv : sg), k2 x2 s = some rv → mEnds [] 1 131 (2, [some (.ref 10), some (.int x1), some (.int x2), none, none, none], [], hp shM s, 0, 0) (none, hp shM rv, 0, 0)) (hf : M_tonguesOn_109 k2 x1 x2 x4 s = some rv) : mEnds [] 1 131 (109, [some (.ref 10), some (.int x1), some (.int x2), none, some (.int x4), none], [], hp shM s, 0, 0) (none, hp shM rv, 0, 0) := by
  unfold M_tonguesOn_109 at hf
  refine mEnds.stp 1 (pc' := 110) (l' := [some (.ref 10), some (.int x1), some (.int x2), none, some (.int x4), none]) (st' := [.int (nI 0)]) (fun _ => rfl) ?_
  refine mEnds.cut (l := [some (.ref 10), some (.int x1), some (.int x2), none, some (.int x4), none]) ⟨rfl, ⟨rfl, ⟨rfl, ⟨rfl, trivial⟩⟩⟩⟩ ?_
  exact ok_M_tonguesOn_110 hk2 hf
def M_tonguesOn_72 (k2 : Int32 → sg → Option sg) (x1 : Int32) (x2 : Int32) (y0 : Int32) (s : sg) : Option sg :=
  (midx ((x1 + (nI 30)) + x2) 312).bind fun j1 =>
  if y0 = s 11 j1 then
    M_tonguesOn_109 k2 x1 x2 y0 s
  else
    (midx (x1 + (nI 51)) 312).bind fun j2 =>
    if s 11 j2 < nI 9999 then
      M_tonguesOn_110 k2 x1 x2 y0 (nI 1) s
    else
      M_tonguesOn_109 k2 x1 x2 y0 s
set_option maxRecDepth 100000 in
theorem ok_M_tonguesOn_72 {k2 : Int32 → sg → Option sg} {x1 : Int32} {x2 : Int32} {y0 : Int32} {s : sg} {rv : sg} (hk2 : ∀ (x2 : Int32) (s : sg) (rv : sg), k2 x2 s = some rv → mEnds [] 1 131 (2, [some (.ref 10), some (.int x1), some (.int x2), none, none, none], [], hp shM s, 0, 0) (none, hp shM rv, 0, 0)) (hf : M_tonguesOn_72 k2 x1 x2 y0 s = some rv) : mEnds [] 1 131 (72, [some (.ref 10), some (.int x1), some (.int x2), none, none, none], [.int y0], hp shM s, 0, 0) (none, hp shM rv, 0, 0) := by
  unfold M_tonguesOn_72 at hf
  refine mEnds.stp 3 (pc' := 77) (l' := [some (.ref 10), some (.int x1), some (.int x2), none, some (.int y0), none]) (st' := [.ref 10, .int y0]) (fun _ => rfl) ?_
  refine t_gr (rfl : mfetch 131 77 = some (77, .getfield 7, 3, 5, 0, 0)) rfl rfl ?_
  refine mEnds.stp 5 (pc' := 86) (l' := [some (.ref 10), some (.int x1), some (.int x2), none, some (.int y0), none]) (st' := [.int ((x1 + (nI 30)) + x2), .ref 11, .int y0]) (fun _ => rfl) ?_
  obtain ⟨j1, hj1, hf⟩ := ob hf
  refine t_ia (rfl : mfetch 131 86 = some (86, .iaload, 1, 0, 0, 0)) rfl rfl hj1 ?_
  by_cases hc1 : y0 = s 11 j1
  · rw [if_pos hc1] at hf
    refine t_cT (t := 109) (rfl : mfetch 131 87 = some (87, .if_icmp .eq 22, 3, 0, 0, 0)) rfl (k_eq hc1) ?_
    refine mEnds.cut (l := [some (.ref 10), some (.int x1), some (.int x2), none, some (.int y0), none]) ⟨rfl, ⟨rfl, ⟨rfl, ⟨rfl, trivial⟩⟩⟩⟩ ?_
    exact ok_M_tonguesOn_109 hk2 hf
  · rw [if_neg hc1] at hf
    refine t_cF (rfl : mfetch 131 87 = some (87, .if_icmp .eq 22, 3, 0, 0, 0)) (k_eq' hc1) ?_
    refine mEnds.stp 1 (pc' := 91) (l' := [some (.ref 10), some (.int x1), some (.int x2), none, some (.int y0), none]) (st' := [.ref 10]) (fun _ => rfl) ?_
    refine t_gr (rfl : mfetch 131 91 = some (91, .getfield 7, 3, 5, 0, 0)) rfl rfl ?_
    refine mEnds.stp 3 (pc' := 98) (l' := [some (.ref 10), some (.int x1), some (.int x2), none, some (.int y0), none]) (st' := [.int (x1 + (nI 51)), .ref 11]) (fun _ => rfl) ?_
    obtain ⟨j2, hj2, hf⟩ := ob hf
    refine t_ia (rfl : mfetch 131 98 = some (98, .iaload, 1, 0, 0, 0)) rfl rfl hj2 ?_
    refine mEnds.stp 1 (pc' := 102) (l' := [some (.ref 10), some (.int x1), some (.int x2), none, some (.int y0), none]) (st' := [.int (nI 9999), .int (s 11 j2)]) (fun _ => rfl) ?_
    by_cases hc2 : s 11 j2 < nI 9999
    · rw [if_pos hc2] at hf
      refine t_cF (rfl : mfetch 131 102 = some (102, .if_icmp .ge 7, 3, 0, 0, 0)) (k_ge' hc2) ?_
      refine mEnds.stp 2 (pc' := 110) (l' := [some (.ref 10), some (.int x1), some (.int x2), none, some (.int y0), none]) (st' := [.int (nI 1)]) (fun _ => rfl) ?_
      refine mEnds.cut (l := [some (.ref 10), some (.int x1), some (.int x2), none, some (.int y0), none]) ⟨rfl, ⟨rfl, ⟨rfl, ⟨rfl, trivial⟩⟩⟩⟩ ?_
      exact ok_M_tonguesOn_110 hk2 hf
    · rw [if_neg hc2] at hf
      refine t_cT (t := 109) (rfl : mfetch 131 102 = some (102, .if_icmp .ge 7, 3, 0, 0, 0)) rfl (k_ge hc2) ?_
      refine mEnds.cut (l := [some (.ref 10), some (.int x1), some (.int x2), none, some (.int y0), none]) ⟨rfl, ⟨rfl, ⟨rfl, ⟨rfl, trivial⟩⟩⟩⟩ ?_
      exact ok_M_tonguesOn_109 hk2 hf
def M_tonguesOn_2 (x1 : Int32) : Nat → Int32 → sg → Option sg
  | 0, _, _ => none
  | fu + 1, x2, s =>
  if x2 < s 10 1 then
    (midx ((x1 + (nI 18)) + x2) 312).bind fun j1 =>
    if 0 < s 11 j1 then
      (midx (x1 + x2) 312).bind fun j2 =>
      (M_lowOn x1 x2 s).bind fun v1 =>
      if v1 < s 11 j2 then
        (M_highOn x1 x2 s).bind fun v2 =>
        if s 11 j2 < v2 then
          (midx ((x1 + (nI 30)) + x2) 312).bind fun j3 =>
          M_tonguesOn_72 (M_tonguesOn_2 x1 fu) x1 x2 (s 11 j3) s
        else
          M_tonguesOn_72 (M_tonguesOn_2 x1 fu) x1 x2 (nI 0) s
      else
        M_tonguesOn_72 (M_tonguesOn_2 x1 fu) x1 x2 (nI 1) s
    else
      M_tonguesOn_2 x1 fu (x2 + (nI 1)) s
  else
    some s
set_option maxRecDepth 100000 in
theorem ok_M_tonguesOn_2 {x1 : Int32} : ∀ (fu : Nat) (x2 : Int32) (s : sg) (rv : sg), M_tonguesOn_2 x1 fu x2 s = some rv → mEnds [] 1 131 (2, [some (.ref 10), some (.int x1), some (.int x2), none, none, none], [], hp shM s, 0, 0) (none, hp shM rv, 0, 0)
  | 0, _, _, _, hf => by cases hf
  | fu + 1, x2, s, rv, hf => by
    rw [M_tonguesOn_2] at hf
    refine mEnds.stp 2 (pc' := 4) (l' := [some (.ref 10), some (.int x1), some (.int x2), none, none, none]) (st' := [.ref 10, .int x2]) (fun _ => rfl) ?_
    refine t_gi (rfl : mfetch 131 4 = some (4, .getfield 139, 3, 5, 1, 0)) rfl rfl ?_
    by_cases hc1 : x2 < s 10 1
    · rw [if_pos hc1] at hf
      refine t_cF (rfl : mfetch 131 7 = some (7, .if_icmp .ge 146, 3, 0, 0, 0)) (k_ge' hc1) ?_
      refine mEnds.stp 1 (pc' := 11) (l' := [some (.ref 10), some (.int x1), some (.int x2), none, none, none]) (st' := [.ref 10]) (fun _ => rfl) ?_
      refine t_gr (rfl : mfetch 131 11 = some (11, .getfield 7, 3, 5, 0, 0)) rfl rfl ?_
      refine mEnds.stp 5 (pc' := 20) (l' := [some (.ref 10), some (.int x1), some (.int x2), none, none, none]) (st' := [.int ((x1 + (nI 18)) + x2), .ref 11]) (fun _ => rfl) ?_
      obtain ⟨j1, hj1, hf⟩ := ob hf
      refine t_ia (rfl : mfetch 131 20 = some (20, .iaload, 1, 0, 0, 0)) rfl rfl hj1 ?_
      by_cases hc2 : 0 < s 11 j1
      · rw [if_pos hc2] at hf
        refine t_jF (rfl : mfetch 131 21 = some (21, .ifCond .le 126, 3, 0, 0, 0)) (k_le' hc2) ?_
        refine mEnds.stp 1 (pc' := 25) (l' := [some (.ref 10), some (.int x1), some (.int x2), none, none, none]) (st' := [.ref 10]) (fun _ => rfl) ?_
        refine t_gr (rfl : mfetch 131 25 = some (25, .getfield 7, 3, 5, 0, 0)) rfl rfl ?_
        refine mEnds.stp 3 (pc' := 31) (l' := [some (.ref 10), some (.int x1), some (.int x2), none, none, none]) (st' := [.int (x1 + x2), .ref 11]) (fun _ => rfl) ?_
        obtain ⟨j2, hj2, hf⟩ := ob hf
        refine t_ia (rfl : mfetch 131 31 = some (31, .iaload, 1, 0, 0, 0)) rfl rfl hj2 ?_
        refine mEnds.stp 5 (pc' := 37) (l' := [some (.ref 10), some (.int x1), some (.int x2), some (.int (s 11 j2)), none, none]) (st' := [.int x2, .int x1, .ref 10, .int (s 11 j2)]) (fun _ => rfl) ?_
        obtain ⟨v1, hv1, hf⟩ := ob hf
        refine t_cv (as := [.int x1, .int x2]) (st := [.int (s 11 j2)]) (rfl : mfetch 131 37 = some (37, .invokevirtual 145, 3, 129, 0, 0)) rfl rfl rfl rfl rfl (ok_M_lowOn hv1) ?_
        by_cases hc3 : v1 < s 11 j2
        · rw [if_pos hc3] at hf
          refine t_cT (t := 47) (rfl : mfetch 131 40 = some (40, .if_icmp .gt 7, 3, 0, 0, 0)) rfl (k_gt hc3) ?_
          refine mEnds.stp 4 (pc' := 51) (l' := [some (.ref 10), some (.int x1), some (.int x2), some (.int (s 11 j2)), none, none]) (st' := [.int x2, .int x1, .ref 10, .int (s 11 j2)]) (fun _ => rfl) ?_
          obtain ⟨v2, hv2, hf⟩ := ob hf
          refine t_cv (as := [.int x1, .int x2]) (st := [.int (s 11 j2)]) (rfl : mfetch 131 51 = some (51, .invokevirtual 148, 3, 130, 0, 0)) rfl rfl rfl rfl rfl (ok_M_highOn hv2) ?_
          by_cases hc4 : s 11 j2 < v2
          · rw [if_pos hc4] at hf
            refine t_cT (t := 61) (rfl : mfetch 131 54 = some (54, .if_icmp .lt 7, 3, 0, 0, 0)) rfl (k_lt hc4) ?_
            refine mEnds.stp 1 (pc' := 62) (l' := [some (.ref 10), some (.int x1), some (.int x2), some (.int (s 11 j2)), none, none]) (st' := [.ref 10]) (fun _ => rfl) ?_
            refine t_gr (rfl : mfetch 131 62 = some (62, .getfield 7, 3, 5, 0, 0)) rfl rfl ?_
            refine mEnds.stp 5 (pc' := 71) (l' := [some (.ref 10), some (.int x1), some (.int x2), some (.int (s 11 j2)), none, none]) (st' := [.int ((x1 + (nI 30)) + x2), .ref 11]) (fun _ => rfl) ?_
            obtain ⟨j3, hj3, hf⟩ := ob hf
            refine t_ia (rfl : mfetch 131 71 = some (71, .iaload, 1, 0, 0, 0)) rfl rfl hj3 ?_
            refine mEnds.cut (l := [some (.ref 10), some (.int x1), some (.int x2), none, none, none]) ⟨rfl, ⟨rfl, ⟨rfl, trivial⟩⟩⟩ ?_
            exact ok_M_tonguesOn_72 (ok_M_tonguesOn_2 fu) hf
          · rw [if_neg hc4] at hf
            refine t_cF (rfl : mfetch 131 54 = some (54, .if_icmp .lt 7, 3, 0, 0, 0)) (k_lt' hc4) ?_
            refine mEnds.stp 2 (pc' := 72) (l' := [some (.ref 10), some (.int x1), some (.int x2), some (.int (s 11 j2)), none, none]) (st' := [.int (nI 0)]) (fun _ => rfl) ?_
            refine mEnds.cut (l := [some (.ref 10), some (.int x1), some (.int x2), none, none, none]) ⟨rfl, ⟨rfl, ⟨rfl, trivial⟩⟩⟩ ?_
            exact ok_M_tonguesOn_72 (ok_M_tonguesOn_2 fu) hf
        · rw [if_neg hc3] at hf
          refine t_cF (rfl : mfetch 131 40 = some (40, .if_icmp .gt 7, 3, 0, 0, 0)) (k_gt' hc3) ?_
          refine mEnds.stp 2 (pc' := 72) (l' := [some (.ref 10), some (.int x1), some (.int x2), some (.int (s 11 j2)), none, none]) (st' := [.int (nI 1)]) (fun _ => rfl) ?_
          refine mEnds.cut (l := [some (.ref 10), some (.int x1), some (.int x2), none, none, none]) ⟨rfl, ⟨rfl, ⟨rfl, trivial⟩⟩⟩ ?_
          exact ok_M_tonguesOn_72 (ok_M_tonguesOn_2 fu) hf
      · rw [if_neg hc2] at hf
        refine t_jT (t := 147) (rfl : mfetch 131 21 = some (21, .ifCond .le 126, 3, 0, 0, 0)) rfl (k_le hc2) ?_
        refine mEnds.stp 2 (pc' := 2) (l' := [some (.ref 10), some (.int x1), some (.int (x2 + (nI 1))), none, none, none]) (st' := []) (fun _ => rfl) ?_
        refine mEnds.cut (l := [some (.ref 10), some (.int x1), some (.int (x2 + (nI 1))), none, none, none]) ⟨rfl, ⟨rfl, ⟨rfl, trivial⟩⟩⟩ ?_
        exact ok_M_tonguesOn_2 fu (x2 + (nI 1)) s _ hf
    · rw [if_neg hc1] at hf
      refine t_cT (t := 153) (rfl : mfetch 131 7 = some (7, .if_icmp .ge 146, 3, 0, 0, 0)) rfl (k_ge hc1) ?_
      cases hf; exact mEnds.rt (fun _ => rfl)
def M_tonguesOn (x1 : Int32) (s : sg) : Option sg :=
  M_tonguesOn_2 x1 FU (nI 0) s
set_option maxRecDepth 100000 in
theorem ok_M_tonguesOn {x1 : Int32} {s : sg} {rv : sg} (hf : M_tonguesOn x1 s = some rv) : mEnds [] 1 131 (0, [some (.ref 10), some (.int x1), none, none, none, none], [], hp shM s, 0, 0) (none, hp shM rv, 0, 0) := by
  unfold M_tonguesOn at hf
  refine mEnds.stp 2 (pc' := 2) (l' := [some (.ref 10), some (.int x1), some (.int (nI 0)), none, none, none]) (st' := []) (fun _ => rfl) ?_
  refine mEnds.cut (l := [some (.ref 10), some (.int x1), some (.int (nI 0)), none, none, none]) ⟨rfl, ⟨rfl, ⟨rfl, trivial⟩⟩⟩ ?_
  exact ok_M_tonguesOn_2 FU (nI 0) s _ hf
