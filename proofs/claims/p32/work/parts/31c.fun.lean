def M_hourOn_124 (k8 : Int32 → sg → Option sg) (x1 : Int32) (x2 : Int32) (x3 : Int32) (x4 : Int32) (y0 : Int32) (y1 : Int32) (y2 : Int32) (s : sg) : Option sg :=
  (midx y2 312).bind fun j1 =>
  (some (up s 11 j1 (y1 + y0))).bind fun s1 =>
  k8 (x4 + (nI 1)) s1
set_option maxRecDepth 100000 in
theorem ok_M_hourOn_124 {k8 : Int32 → sg → Option sg} {x1 : Int32} {x2 : Int32} {x3 : Int32} {x4 : Int32} {y0 : Int32} {y1 : Int32} {y2 : Int32} {s : sg} {rv : sg} (hk8 : ∀ (x4 : Int32) (s : sg) (rv : sg), k8 x4 s = some rv → mEnds [] 2 132 (8, [some (.ref 10), some (.int x1), some (.int x2), some (.int x3), some (.int x4), none], [], hp shM s, 0, 0) (none, hp shM rv, 0, 0)) (hf : M_hourOn_124 k8 x1 x2 x3 x4 y0 y1 y2 s = some rv) : mEnds [] 2 132 (124, [some (.ref 10), some (.int x1), some (.int x2), some (.int x3), some (.int x4), none], [.int y0, .int y1, .int y2, .ref 11], hp shM s, 0, 0) (none, hp shM rv, 0, 0) := by
  unfold M_hourOn_124 at hf
  refine mEnds.stp 1 (pc' := 125) (l' := [some (.ref 10), some (.int x1), some (.int x2), some (.int x3), some (.int x4), none]) (st' := [.int (y1 + y0), .int y2, .ref 11]) (fun _ => rfl) ?_
  obtain ⟨j1, hj1, hf⟩ := ob hf
  obtain ⟨s1, hs1, hf⟩ := ob hf
  refine t_is (rfl : mfetch 132 125 = some (125, .iastore, 1, 0, 0, 0)) rfl rfl hj1 hs1 ?_
  refine mEnds.stp 2 (pc' := 8) (l' := [some (.ref 10), some (.int x1), some (.int x2), some (.int x3), some (.int (x4 + (nI 1))), none]) (st' := []) (fun _ => rfl) ?_
  refine mEnds.cut (l := [some (.ref 10), some (.int x1), some (.int x2), some (.int x3), some (.int (x4 + (nI 1))), none]) ⟨rfl, ⟨rfl, ⟨rfl, ⟨rfl, ⟨rfl, trivial⟩⟩⟩⟩⟩ ?_
  exact hk8 (x4 + (nI 1)) s1 _ hf
def M_hourOn_281 (k222 : Int32 → sg → Option sg) (x1 : Int32) (x4 : Int32) (y0 : Int32) (y1 : Int32) (s : sg) : Option sg :=
  (midx y1 312).bind fun j1 =>
  (some (up s 11 j1 y0)).bind fun s1 =>
  k222 (x4 + (nI 1)) s1
set_option maxRecDepth 100000 in
theorem ok_M_hourOn_281 {k222 : Int32 → sg → Option sg} {x1 : Int32} {x4 : Int32} {y0 : Int32} {y1 : Int32} {s : sg} {rv : sg} (hk222 : ∀ (x4 : Int32) (s : sg) (rv : sg), k222 x4 s = some rv → mEnds [] 2 132 (222, [some (.ref 10), some (.int x1), none, none, some (.int x4), none], [], hp shM s, 0, 0) (none, hp shM rv, 0, 0)) (hf : M_hourOn_281 k222 x1 x4 y0 y1 s = some rv) : mEnds [] 2 132 (281, [some (.ref 10), some (.int x1), none, none, some (.int x4), none], [.int y0, .int y1, .ref 11], hp shM s, 0, 0) (none, hp shM rv, 0, 0) := by
  unfold M_hourOn_281 at hf
  obtain ⟨j1, hj1, hf⟩ := ob hf
  obtain ⟨s1, hs1, hf⟩ := ob hf
  refine t_is (rfl : mfetch 132 281 = some (281, .iastore, 1, 0, 0, 0)) rfl rfl hj1 hs1 ?_
  refine mEnds.stp 2 (pc' := 222) (l' := [some (.ref 10), some (.int x1), none, none, some (.int (x4 + (nI 1))), none]) (st' := []) (fun _ => rfl) ?_
  refine mEnds.cut (l := [some (.ref 10), some (.int x1), none, none, some (.int (x4 + (nI 1))), none]) ⟨rfl, ⟨rfl, ⟨rfl, trivial⟩⟩⟩ ?_
  exact hk222 (x4 + (nI 1)) s1 _ hf
def M_hourOn_222 (x1 : Int32) : Nat → Int32 → sg → Option sg
  | 0, _, _ => none
  | fu + 1, x4, s =>
  if x4 < s 10 1 then
    (midx (x1 + x4) 312).bind fun j3 =>
    (midx x4 6).bind fun j4 =>
    if (s 11 j3) + (s 16 j4) < 0 then
      M_hourOn_281 (M_hourOn_222 x1 fu) x1 x4 (nI 0) (x1 + x4) s
    else
      if nI 99 < (s 11 j3) + (s 16 j4) then
        M_hourOn_281 (M_hourOn_222 x1 fu) x1 x4 (nI 99) (x1 + x4) s
      else
        M_hourOn_281 (M_hourOn_222 x1 fu) x1 x4 ((s 11 j3) + (s 16 j4)) (x1 + x4) s
  else
    (midx (x1 + (nI 49)) 312).bind fun j1 =>
    (midx (x1 + (nI 49)) 312).bind fun j2 =>
    (some (up s 11 j2 ((s 11 j1) + (nI 1)))).bind fun s1 =>
    some s1
set_option maxRecDepth 100000 in
theorem ok_M_hourOn_222 {x1 : Int32} : ∀ (fu : Nat) (x4 : Int32) (s : sg) (rv : sg), M_hourOn_222 x1 fu x4 s = some rv → mEnds [] 2 132 (222, [some (.ref 10), some (.int x1), none, none, some (.int x4), none], [], hp shM s, 0, 0) (none, hp shM rv, 0, 0)
  | 0, _, _, _, hf => by cases hf
  | fu + 1, x4, s, rv, hf => by
    rw [M_hourOn_222] at hf
    refine mEnds.stp 2 (pc' := 225) (l' := [some (.ref 10), some (.int x1), none, none, some (.int x4), none]) (st' := [.ref 10, .int x4]) (fun _ => rfl) ?_
    refine t_gi (rfl : mfetch 132 225 = some (225, .getfield 139, 3, 5, 1, 0)) rfl rfl ?_
    by_cases hc1 : x4 < s 10 1
    · rw [if_pos hc1] at hf
      refine t_cF (rfl : mfetch 132 228 = some (228, .if_icmp .ge 60, 3, 0, 0, 0)) (k_ge' hc1) ?_
      refine mEnds.stp 1 (pc' := 232) (l' := [some (.ref 10), some (.int x1), none, none, some (.int x4), none]) (st' := [.ref 10]) (fun _ => rfl) ?_
      refine t_gr (rfl : mfetch 132 232 = some (232, .getfield 7, 3, 5, 0, 0)) rfl rfl ?_
      refine mEnds.stp 3 (pc' := 239) (l' := [some (.ref 10), some (.int x1), none, none, some (.int x4), none]) (st' := [.int (x1 + x4), .ref 11]) (fun _ => rfl) ?_
      obtain ⟨j3, hj3, hf⟩ := ob hf
      refine t_ia (rfl : mfetch 132 239 = some (239, .iaload, 1, 0, 0, 0)) rfl rfl hj3 ?_
      refine mEnds.stp 1 (pc' := 241) (l' := [some (.ref 10), some (.int x1), none, none, some (.int x4), none]) (st' := [.ref 10, .int (s 11 j3)]) (fun _ => rfl) ?_
      refine t_gr (rfl : mfetch 132 241 = some (241, .getfield 25, 3, 5, 18, 0)) rfl rfl ?_
      refine mEnds.stp 1 (pc' := 246) (l' := [some (.ref 10), some (.int x1), none, none, some (.int x4), none]) (st' := [.int x4, .ref 16, .int (s 11 j3)]) (fun _ => rfl) ?_
      obtain ⟨j4, hj4, hf⟩ := ob hf
      refine t_ia (rfl : mfetch 132 246 = some (246, .iaload, 1, 0, 0, 0)) rfl rfl hj4 ?_
      refine mEnds.stp 3 (pc' := 251) (l' := [some (.ref 10), some (.int x1), none, none, some (.int x4), some (.int ((s 11 j3) + (s 16 j4)))]) (st' := [.ref 10]) (fun _ => rfl) ?_
      refine t_gr (rfl : mfetch 132 251 = some (251, .getfield 7, 3, 5, 0, 0)) rfl rfl ?_
      refine mEnds.stp 4 (pc' := 260) (l' := [some (.ref 10), some (.int x1), none, none, some (.int x4), some (.int ((s 11 j3) + (s 16 j4)))]) (st' := [.int ((s 11 j3) + (s 16 j4)), .int (x1 + x4), .ref 11]) (fun _ => rfl) ?_
      by_cases hc2 : (s 11 j3) + (s 16 j4) < 0
      · rw [if_pos hc2] at hf
        refine t_jF (rfl : mfetch 132 260 = some (260, .ifCond .ge 7, 3, 0, 0, 0)) (k_ge' hc2) ?_
        refine mEnds.stp 2 (pc' := 281) (l' := [some (.ref 10), some (.int x1), none, none, some (.int x4), some (.int ((s 11 j3) + (s 16 j4)))]) (st' := [.int (nI 0), .int (x1 + x4), .ref 11]) (fun _ => rfl) ?_
        refine mEnds.cut (l := [some (.ref 10), some (.int x1), none, none, some (.int x4), none]) ⟨rfl, ⟨rfl, ⟨rfl, trivial⟩⟩⟩ ?_
        exact ok_M_hourOn_281 (ok_M_hourOn_222 fu) hf
      · rw [if_neg hc2] at hf
        refine t_jT (t := 267) (rfl : mfetch 132 260 = some (260, .ifCond .ge 7, 3, 0, 0, 0)) rfl (k_ge hc2) ?_
        refine mEnds.stp 2 (pc' := 271) (l' := [some (.ref 10), some (.int x1), none, none, some (.int x4), some (.int ((s 11 j3) + (s 16 j4)))]) (st' := [.int (nI 99), .int ((s 11 j3) + (s 16 j4)), .int (x1 + x4), .ref 11]) (fun _ => rfl) ?_
        by_cases hc3 : nI 99 < (s 11 j3) + (s 16 j4)
        · rw [if_pos hc3] at hf
          refine t_cF (rfl : mfetch 132 271 = some (271, .if_icmp .le 8, 3, 0, 0, 0)) (k_le' hc3) ?_
          refine mEnds.stp 2 (pc' := 281) (l' := [some (.ref 10), some (.int x1), none, none, some (.int x4), some (.int ((s 11 j3) + (s 16 j4)))]) (st' := [.int (nI 99), .int (x1 + x4), .ref 11]) (fun _ => rfl) ?_
          refine mEnds.cut (l := [some (.ref 10), some (.int x1), none, none, some (.int x4), none]) ⟨rfl, ⟨rfl, ⟨rfl, trivial⟩⟩⟩ ?_
          exact ok_M_hourOn_281 (ok_M_hourOn_222 fu) hf
        · rw [if_neg hc3] at hf
          refine t_cT (t := 279) (rfl : mfetch 132 271 = some (271, .if_icmp .le 8, 3, 0, 0, 0)) rfl (k_le hc3) ?_
          refine mEnds.stp 1 (pc' := 281) (l' := [some (.ref 10), some (.int x1), none, none, some (.int x4), some (.int ((s 11 j3) + (s 16 j4)))]) (st' := [.int ((s 11 j3) + (s 16 j4)), .int (x1 + x4), .ref 11]) (fun _ => rfl) ?_
          refine mEnds.cut (l := [some (.ref 10), some (.int x1), none, none, some (.int x4), none]) ⟨rfl, ⟨rfl, ⟨rfl, trivial⟩⟩⟩ ?_
          exact ok_M_hourOn_281 (ok_M_hourOn_222 fu) hf
    · rw [if_neg hc1] at hf
      refine t_cT (t := 288) (rfl : mfetch 132 228 = some (228, .if_icmp .ge 60, 3, 0, 0, 0)) rfl (k_ge hc1) ?_
      refine mEnds.stp 1 (pc' := 289) (l' := [some (.ref 10), some (.int x1), none, none, some (.int x4), none]) (st' := [.ref 10]) (fun _ => rfl) ?_
      refine t_gr (rfl : mfetch 132 289 = some (289, .getfield 7, 3, 5, 0, 0)) rfl rfl ?_
      refine mEnds.stp 4 (pc' := 297) (l' := [some (.ref 10), some (.int x1), none, none, some (.int x4), none]) (st' := [.int (x1 + (nI 49)), .ref 11, .int (x1 + (nI 49)), .ref 11]) (fun _ => rfl) ?_
      obtain ⟨j1, hj1, hf⟩ := ob hf
      refine t_ia (rfl : mfetch 132 297 = some (297, .iaload, 1, 0, 0, 0)) rfl rfl hj1 ?_
      refine mEnds.stp 2 (pc' := 300) (l' := [some (.ref 10), some (.int x1), none, none, some (.int x4), none]) (st' := [.int ((s 11 j1) + (nI 1)), .int (x1 + (nI 49)), .ref 11]) (fun _ => rfl) ?_
      obtain ⟨j2, hj2, hf⟩ := ob hf
      obtain ⟨s1, hs1, hf⟩ := ob hf
      refine t_is (rfl : mfetch 132 300 = some (300, .iastore, 1, 0, 0, 0)) rfl rfl hj2 hs1 ?_
      cases hf; exact mEnds.rt (fun _ => rfl)
def M_hourOn_135 (x1 : Int32) : Nat → Int32 → sg → Option sg
  | 0, _, _ => none
  | fu + 1, x4, s =>
  if x4 < (s 10 1) - (nI 1) then
    (midx ((x1 + (nI 36)) + x4) 312).bind fun j1 =>
    (midx (x1 + x4) 312).bind fun j2 =>
    (midx ((x1 + x4) + (nI 1)) 312).bind fun j3 =>
    (midx x4 6).bind fun j4 =>
    (midx x4 6).bind fun j5 =>
    (some (up s 16 j5 ((s 16 j4) - ((((s 11 j1) + (nI 2)) * ((s 11 j2) - (s 11 j3))) / (nI 10))))).bind fun s1 =>
    (midx (x4 + (nI 1)) 6).bind fun j6 =>
    (midx (x4 + (nI 1)) 6).bind fun j7 =>
    (some (up s1 16 j7 ((s1 16 j6) + ((((s 11 j1) + (nI 2)) * ((s 11 j2) - (s 11 j3))) / (nI 10))))).bind fun s2 =>
    M_hourOn_135 x1 fu (x4 + (nI 1)) s2
  else
    M_hourOn_222 x1 FU (nI 0) s
set_option maxRecDepth 100000 in
theorem ok_M_hourOn_135 {x1 : Int32} : ∀ (fu : Nat) (x4 : Int32) (s : sg) (rv : sg), M_hourOn_135 x1 fu x4 s = some rv → mEnds [] 2 132 (135, [some (.ref 10), some (.int x1), none, none, some (.int x4), none], [], hp shM s, 0, 0) (none, hp shM rv, 0, 0)
  | 0, _, _, _, hf => by cases hf
  | fu + 1, x4, s, rv, hf => by
    rw [M_hourOn_135] at hf
    refine mEnds.stp 2 (pc' := 138) (l' := [some (.ref 10), some (.int x1), none, none, some (.int x4), none]) (st' := [.ref 10, .int x4]) (fun _ => rfl) ?_
    refine t_gi (rfl : mfetch 132 138 = some (138, .getfield 139, 3, 5, 1, 0)) rfl rfl ?_
    refine mEnds.stp 2 (pc' := 143) (l' := [some (.ref 10), some (.int x1), none, none, some (.int x4), none]) (st' := [.int ((s 10 1) - (nI 1)), .int x4]) (fun _ => rfl) ?_
    by_cases hc1 : x4 < (s 10 1) - (nI 1)
    · rw [if_pos hc1] at hf
      refine t_cF (rfl : mfetch 132 143 = some (143, .if_icmp .ge 76, 3, 0, 0, 0)) (k_ge' hc1) ?_
      refine mEnds.stp 1 (pc' := 147) (l' := [some (.ref 10), some (.int x1), none, none, some (.int x4), none]) (st' := [.ref 10]) (fun _ => rfl) ?_
      refine t_gr (rfl : mfetch 132 147 = some (147, .getfield 7, 3, 5, 0, 0)) rfl rfl ?_
      refine mEnds.stp 5 (pc' := 157) (l' := [some (.ref 10), some (.int x1), none, none, some (.int x4), none]) (st' := [.int ((x1 + (nI 36)) + x4), .ref 11]) (fun _ => rfl) ?_
      obtain ⟨j1, hj1, hf⟩ := ob hf
      refine t_ia (rfl : mfetch 132 157 = some (157, .iaload, 1, 0, 0, 0)) rfl rfl hj1 ?_
      refine mEnds.stp 3 (pc' := 161) (l' := [some (.ref 10), some (.int x1), none, none, some (.int x4), none]) (st' := [.ref 10, .int ((s 11 j1) + (nI 2))]) (fun _ => rfl) ?_
      refine t_gr (rfl : mfetch 132 161 = some (161, .getfield 7, 3, 5, 0, 0)) rfl rfl ?_
      refine mEnds.stp 3 (pc' := 168) (l' := [some (.ref 10), some (.int x1), none, none, some (.int x4), none]) (st' := [.int (x1 + x4), .ref 11, .int ((s 11 j1) + (nI 2))]) (fun _ => rfl) ?_
      obtain ⟨j2, hj2, hf⟩ := ob hf
      refine t_ia (rfl : mfetch 132 168 = some (168, .iaload, 1, 0, 0, 0)) rfl rfl hj2 ?_
      refine mEnds.stp 1 (pc' := 170) (l' := [some (.ref 10), some (.int x1), none, none, some (.int x4), none]) (st' := [.ref 10, .int (s 11 j2), .int ((s 11 j1) + (nI 2))]) (fun _ => rfl) ?_
      refine t_gr (rfl : mfetch 132 170 = some (170, .getfield 7, 3, 5, 0, 0)) rfl rfl ?_
      refine mEnds.stp 5 (pc' := 179) (l' := [some (.ref 10), some (.int x1), none, none, some (.int x4), none]) (st' := [.int ((x1 + x4) + (nI 1)), .ref 11, .int (s 11 j2), .int ((s 11 j1) + (nI 2))]) (fun _ => rfl) ?_
      obtain ⟨j3, hj3, hf⟩ := ob hf
      refine t_ia (rfl : mfetch 132 179 = some (179, .iaload, 1, 0, 0, 0)) rfl rfl hj3 ?_
      refine mEnds.stp 6 (pc' := 188) (l' := [some (.ref 10), some (.int x1), none, none, some (.int x4), some (.int ((((s 11 j1) + (nI 2)) * ((s 11 j2) - (s 11 j3))) / (nI 10)))]) (st' := [.ref 10]) (fun _ => rfl) ?_
      refine t_gr (rfl : mfetch 132 188 = some (188, .getfield 25, 3, 5, 18, 0)) rfl rfl ?_
      refine mEnds.stp 2 (pc' := 194) (l' := [some (.ref 10), some (.int x1), none, none, some (.int x4), some (.int ((((s 11 j1) + (nI 2)) * ((s 11 j2) - (s 11 j3))) / (nI 10)))]) (st' := [.int x4, .ref 16, .int x4, .ref 16]) (fun _ => rfl) ?_
      obtain ⟨j4, hj4, hf⟩ := ob hf
      refine t_ia (rfl : mfetch 132 194 = some (194, .iaload, 1, 0, 0, 0)) rfl rfl hj4 ?_
      refine mEnds.stp 2 (pc' := 198) (l' := [some (.ref 10), some (.int x1), none, none, some (.int x4), some (.int ((((s 11 j1) + (nI 2)) * ((s 11 j2) - (s 11 j3))) / (nI 10)))]) (st' := [.int ((s 16 j4) - ((((s 11 j1) + (nI 2)) * ((s 11 j2) - (s 11 j3))) / (nI 10))), .int x4, .ref 16]) (fun _ => rfl) ?_
      obtain ⟨j5, hj5, hf⟩ := ob hf
      obtain ⟨s1, hs1, hf⟩ := ob hf
      refine t_is (rfl : mfetch 132 198 = some (198, .iastore, 1, 0, 0, 0)) rfl rfl hj5 hs1 ?_
      refine mEnds.stp 1 (pc' := 200) (l' := [some (.ref 10), some (.int x1), none, none, some (.int x4), some (.int ((((s 11 j1) + (nI 2)) * ((s 11 j2) - (s 11 j3))) / (nI 10)))]) (st' := [.ref 10]) (fun _ => rfl) ?_
      refine t_gr (rfl : mfetch 132 200 = some (200, .getfield 25, 3, 5, 18, 0)) rfl rfl ?_
      refine mEnds.stp 4 (pc' := 208) (l' := [some (.ref 10), some (.int x1), none, none, some (.int x4), some (.int ((((s 11 j1) + (nI 2)) * ((s 11 j2) - (s 11 j3))) / (nI 10)))]) (st' := [.int (x4 + (nI 1)), .ref 16, .int (x4 + (nI 1)), .ref 16]) (fun _ => rfl) ?_
      obtain ⟨j6, hj6, hf⟩ := ob hf
      refine t_ia (rfl : mfetch 132 208 = some (208, .iaload, 1, 0, 0, 0)) rfl rfl hj6 ?_
      refine mEnds.stp 2 (pc' := 212) (l' := [some (.ref 10), some (.int x1), none, none, some (.int x4), some (.int ((((s 11 j1) + (nI 2)) * ((s 11 j2) - (s 11 j3))) / (nI 10)))]) (st' := [.int ((s1 16 j6) + ((((s 11 j1) + (nI 2)) * ((s 11 j2) - (s 11 j3))) / (nI 10))), .int (x4 + (nI 1)), .ref 16]) (fun _ => rfl) ?_
      obtain ⟨j7, hj7, hf⟩ := ob hf
      obtain ⟨s2, hs2, hf⟩ := ob hf
      refine t_is (rfl : mfetch 132 212 = some (212, .iastore, 1, 0, 0, 0)) rfl rfl hj7 hs2 ?_
      refine mEnds.stp 2 (pc' := 135) (l' := [some (.ref 10), some (.int x1), none, none, some (.int (x4 + (nI 1))), some (.int ((((s 11 j1) + (nI 2)) * ((s 11 j2) - (s 11 j3))) / (nI 10)))]) (st' := []) (fun _ => rfl) ?_
      refine mEnds.cut (l := [some (.ref 10), some (.int x1), none, none, some (.int (x4 + (nI 1))), none]) ⟨rfl, ⟨rfl, ⟨rfl, trivial⟩⟩⟩ ?_
      exact ok_M_hourOn_135 fu (x4 + (nI 1)) s2 _ hf
    · rw [if_neg hc1] at hf
      refine t_cT (t := 219) (rfl : mfetch 132 143 = some (143, .if_icmp .ge 76, 3, 0, 0, 0)) rfl (k_ge hc1) ?_
      refine mEnds.stp 2 (pc' := 222) (l' := [some (.ref 10), some (.int x1), none, none, some (.int (nI 0)), none]) (st' := []) (fun _ => rfl) ?_
      refine mEnds.cut (l := [some (.ref 10), some (.int x1), none, none, some (.int (nI 0)), none]) ⟨rfl, ⟨rfl, ⟨rfl, trivial⟩⟩⟩ ?_
      exact ok_M_hourOn_222 FU (nI 0) s _ hf
def M_hourOn_8 (x1 : Int32) (x2 : Int32) (x3 : Int32) : Nat → Int32 → sg → Option sg
  | 0, _, _ => none
  | fu + 1, x4, s =>
  if x4 < s 10 1 then
    (midx ((x1 + (nI 6)) + x4) 312).bind fun j1 =>
    (midx (x1 + x4) 312).bind fun j2 =>
    (midx x4 6).bind fun j3 =>
    (some (up s 16 j3 (-(((s 11 j1) * ((s 11 j2) - x2)) / (nI 10))))).bind fun s1 =>
    (midx ((x1 + (nI 30)) + x4) 312).bind fun j4 =>
    if s1 11 j4 = nI 1 then
      if x3 = 0 then
        (midx x4 6).bind fun j5 =>
        (midx ((x1 + (nI 12)) + x4) 312).bind fun j6 =>
        (midx x4 6).bind fun j7 =>
        (some (up s1 16 j7 ((s1 16 j5) + (s1 11 j6)))).bind fun s2 =>
        (midx (x1 + (nI 50)) 312).bind fun j8 =>
        (midx (x1 + (nI 50)) 312).bind fun j9 =>
        if s2 11 j9 < nI 9999 then
          M_hourOn_124 (M_hourOn_8 x1 x2 x3 fu) x1 x2 x3 x4 (nI 1) (s2 11 j8) (x1 + (nI 50)) s2
        else
          M_hourOn_124 (M_hourOn_8 x1 x2 x3 fu) x1 x2 x3 x4 (nI 0) (s2 11 j8) (x1 + (nI 50)) s2
      else
        M_hourOn_8 x1 x2 x3 fu (x4 + (nI 1)) s1
    else
      M_hourOn_8 x1 x2 x3 fu (x4 + (nI 1)) s1
  else
    M_hourOn_135 x1 FU (nI 0) s
set_option maxRecDepth 100000 in
theorem ok_M_hourOn_8 {x1 : Int32} {x2 : Int32} {x3 : Int32} : ∀ (fu : Nat) (x4 : Int32) (s : sg) (rv : sg), M_hourOn_8 x1 x2 x3 fu x4 s = some rv → mEnds [] 2 132 (8, [some (.ref 10), some (.int x1), some (.int x2), some (.int x3), some (.int x4), none], [], hp shM s, 0, 0) (none, hp shM rv, 0, 0)
  | 0, _, _, _, hf => by cases hf
  | fu + 1, x4, s, rv, hf => by
    rw [M_hourOn_8] at hf
    refine mEnds.stp 2 (pc' := 11) (l' := [some (.ref 10), some (.int x1), some (.int x2), some (.int x3), some (.int x4), none]) (st' := [.ref 10, .int x4]) (fun _ => rfl) ?_
    refine t_gi (rfl : mfetch 132 11 = some (11, .getfield 139, 3, 5, 1, 0)) rfl rfl ?_
    by_cases hc1 : x4 < s 10 1
    · rw [if_pos hc1] at hf
      refine t_cF (rfl : mfetch 132 14 = some (14, .if_icmp .ge 118, 3, 0, 0, 0)) (k_ge' hc1) ?_
      refine mEnds.stp 1 (pc' := 18) (l' := [some (.ref 10), some (.int x1), some (.int x2), some (.int x3), some (.int x4), none]) (st' := [.ref 10]) (fun _ => rfl) ?_
      refine t_gr (rfl : mfetch 132 18 = some (18, .getfield 25, 3, 5, 18, 0)) rfl rfl ?_
      refine mEnds.stp 2 (pc' := 24) (l' := [some (.ref 10), some (.int x1), some (.int x2), some (.int x3), some (.int x4), none]) (st' := [.ref 10, .int x4, .ref 16]) (fun _ => rfl) ?_
      refine t_gr (rfl : mfetch 132 24 = some (24, .getfield 7, 3, 5, 0, 0)) rfl rfl ?_
      refine mEnds.stp 5 (pc' := 34) (l' := [some (.ref 10), some (.int x1), some (.int x2), some (.int x3), some (.int x4), none]) (st' := [.int ((x1 + (nI 6)) + x4), .ref 11, .int x4, .ref 16]) (fun _ => rfl) ?_
      obtain ⟨j1, hj1, hf⟩ := ob hf
      refine t_ia (rfl : mfetch 132 34 = some (34, .iaload, 1, 0, 0, 0)) rfl rfl hj1 ?_
      refine mEnds.stp 1 (pc' := 36) (l' := [some (.ref 10), some (.int x1), some (.int x2), some (.int x3), some (.int x4), none]) (st' := [.ref 10, .int (s 11 j1), .int x4, .ref 16]) (fun _ => rfl) ?_
      refine t_gr (rfl : mfetch 132 36 = some (36, .getfield 7, 3, 5, 0, 0)) rfl rfl ?_
      refine mEnds.stp 3 (pc' := 43) (l' := [some (.ref 10), some (.int x1), some (.int x2), some (.int x3), some (.int x4), none]) (st' := [.int (x1 + x4), .ref 11, .int (s 11 j1), .int x4, .ref 16]) (fun _ => rfl) ?_
      obtain ⟨j2, hj2, hf⟩ := ob hf
      refine t_ia (rfl : mfetch 132 43 = some (43, .iaload, 1, 0, 0, 0)) rfl rfl hj2 ?_
      refine mEnds.stp 6 (pc' := 51) (l' := [some (.ref 10), some (.int x1), some (.int x2), some (.int x3), some (.int x4), none]) (st' := [.int (-(((s 11 j1) * ((s 11 j2) - x2)) / (nI 10))), .int x4, .ref 16]) (fun _ => rfl) ?_
      obtain ⟨j3, hj3, hf⟩ := ob hf
      obtain ⟨s1, hs1, hf⟩ := ob hf
      refine t_is (rfl : mfetch 132 51 = some (51, .iastore, 1, 0, 0, 0)) rfl rfl hj3 hs1 ?_
      refine mEnds.stp 1 (pc' := 53) (l' := [some (.ref 10), some (.int x1), some (.int x2), some (.int x3), some (.int x4), none]) (st' := [.ref 10]) (fun _ => rfl) ?_
      refine t_gr (rfl : mfetch 132 53 = some (53, .getfield 7, 3, 5, 0, 0)) rfl rfl ?_
      refine mEnds.stp 5 (pc' := 63) (l' := [some (.ref 10), some (.int x1), some (.int x2), some (.int x3), some (.int x4), none]) (st' := [.int ((x1 + (nI 30)) + x4), .ref 11]) (fun _ => rfl) ?_
      obtain ⟨j4, hj4, hf⟩ := ob hf
      refine t_ia (rfl : mfetch 132 63 = some (63, .iaload, 1, 0, 0, 0)) rfl rfl hj4 ?_
      refine mEnds.stp 1 (pc' := 65) (l' := [some (.ref 10), some (.int x1), some (.int x2), some (.int x3), some (.int x4), none]) (st' := [.int (nI 1), .int (s1 11 j4)]) (fun _ => rfl) ?_
      by_cases hc2 : s1 11 j4 = nI 1
      · rw [if_pos hc2] at hf
        refine t_cF (rfl : mfetch 132 65 = some (65, .if_icmp .ne 61, 3, 0, 0, 0)) (k_ne' hc2) ?_
        refine mEnds.stp 1 (pc' := 69) (l' := [some (.ref 10), some (.int x1), some (.int x2), some (.int x3), some (.int x4), none]) (st' := [.int x3]) (fun _ => rfl) ?_
        by_cases hc3 : x3 = 0
        · rw [if_pos hc3] at hf
          refine t_jF (rfl : mfetch 132 69 = some (69, .ifCond .ne 57, 3, 0, 0, 0)) (k_ne' hc3) ?_
          refine mEnds.stp 1 (pc' := 73) (l' := [some (.ref 10), some (.int x1), some (.int x2), some (.int x3), some (.int x4), none]) (st' := [.ref 10]) (fun _ => rfl) ?_
          refine t_gr (rfl : mfetch 132 73 = some (73, .getfield 25, 3, 5, 18, 0)) rfl rfl ?_
          refine mEnds.stp 2 (pc' := 79) (l' := [some (.ref 10), some (.int x1), some (.int x2), some (.int x3), some (.int x4), none]) (st' := [.int x4, .ref 16, .int x4, .ref 16]) (fun _ => rfl) ?_
          obtain ⟨j5, hj5, hf⟩ := ob hf
          refine t_ia (rfl : mfetch 132 79 = some (79, .iaload, 1, 0, 0, 0)) rfl rfl hj5 ?_
          refine mEnds.stp 1 (pc' := 81) (l' := [some (.ref 10), some (.int x1), some (.int x2), some (.int x3), some (.int x4), none]) (st' := [.ref 10, .int (s1 16 j5), .int x4, .ref 16]) (fun _ => rfl) ?_
          refine t_gr (rfl : mfetch 132 81 = some (81, .getfield 7, 3, 5, 0, 0)) rfl rfl ?_
          refine mEnds.stp 5 (pc' := 91) (l' := [some (.ref 10), some (.int x1), some (.int x2), some (.int x3), some (.int x4), none]) (st' := [.int ((x1 + (nI 12)) + x4), .ref 11, .int (s1 16 j5), .int x4, .ref 16]) (fun _ => rfl) ?_
          obtain ⟨j6, hj6, hf⟩ := ob hf
          refine t_ia (rfl : mfetch 132 91 = some (91, .iaload, 1, 0, 0, 0)) rfl rfl hj6 ?_
          refine mEnds.stp 1 (pc' := 93) (l' := [some (.ref 10), some (.int x1), some (.int x2), some (.int x3), some (.int x4), none]) (st' := [.int ((s1 16 j5) + (s1 11 j6)), .int x4, .ref 16]) (fun _ => rfl) ?_
          obtain ⟨j7, hj7, hf⟩ := ob hf
          obtain ⟨s2, hs2, hf⟩ := ob hf
          refine t_is (rfl : mfetch 132 93 = some (93, .iastore, 1, 0, 0, 0)) rfl rfl hj7 hs2 ?_
          refine mEnds.stp 1 (pc' := 95) (l' := [some (.ref 10), some (.int x1), some (.int x2), some (.int x3), some (.int x4), none]) (st' := [.ref 10]) (fun _ => rfl) ?_
          refine t_gr (rfl : mfetch 132 95 = some (95, .getfield 7, 3, 5, 0, 0)) rfl rfl ?_
          refine mEnds.stp 4 (pc' := 103) (l' := [some (.ref 10), some (.int x1), some (.int x2), some (.int x3), some (.int x4), none]) (st' := [.int (x1 + (nI 50)), .ref 11, .int (x1 + (nI 50)), .ref 11]) (fun _ => rfl) ?_
          obtain ⟨j8, hj8, hf⟩ := ob hf
          refine t_ia (rfl : mfetch 132 103 = some (103, .iaload, 1, 0, 0, 0)) rfl rfl hj8 ?_
          refine mEnds.stp 1 (pc' := 105) (l' := [some (.ref 10), some (.int x1), some (.int x2), some (.int x3), some (.int x4), none]) (st' := [.ref 10, .int (s2 11 j8), .int (x1 + (nI 50)), .ref 11]) (fun _ => rfl) ?_
          refine t_gr (rfl : mfetch 132 105 = some (105, .getfield 7, 3, 5, 0, 0)) rfl rfl ?_
          refine mEnds.stp 3 (pc' := 112) (l' := [some (.ref 10), some (.int x1), some (.int x2), some (.int x3), some (.int x4), none]) (st' := [.int (x1 + (nI 50)), .ref 11, .int (s2 11 j8), .int (x1 + (nI 50)), .ref 11]) (fun _ => rfl) ?_
          obtain ⟨j9, hj9, hf⟩ := ob hf
          refine t_ia (rfl : mfetch 132 112 = some (112, .iaload, 1, 0, 0, 0)) rfl rfl hj9 ?_
          refine mEnds.stp 1 (pc' := 116) (l' := [some (.ref 10), some (.int x1), some (.int x2), some (.int x3), some (.int x4), none]) (st' := [.int (nI 9999), .int (s2 11 j9), .int (s2 11 j8), .int (x1 + (nI 50)), .ref 11]) (fun _ => rfl) ?_
          by_cases hc4 : s2 11 j9 < nI 9999
          · rw [if_pos hc4] at hf
            refine t_cF (rfl : mfetch 132 116 = some (116, .if_icmp .ge 7, 3, 0, 0, 0)) (k_ge' hc4) ?_
            refine mEnds.stp 2 (pc' := 124) (l' := [some (.ref 10), some (.int x1), some (.int x2), some (.int x3), some (.int x4), none]) (st' := [.int (nI 1), .int (s2 11 j8), .int (x1 + (nI 50)), .ref 11]) (fun _ => rfl) ?_
            refine mEnds.cut (l := [some (.ref 10), some (.int x1), some (.int x2), some (.int x3), some (.int x4), none]) ⟨rfl, ⟨rfl, ⟨rfl, ⟨rfl, ⟨rfl, trivial⟩⟩⟩⟩⟩ ?_
            exact ok_M_hourOn_124 (ok_M_hourOn_8 fu) hf
          · rw [if_neg hc4] at hf
            refine t_cT (t := 123) (rfl : mfetch 132 116 = some (116, .if_icmp .ge 7, 3, 0, 0, 0)) rfl (k_ge hc4) ?_
            refine mEnds.stp 1 (pc' := 124) (l' := [some (.ref 10), some (.int x1), some (.int x2), some (.int x3), some (.int x4), none]) (st' := [.int (nI 0), .int (s2 11 j8), .int (x1 + (nI 50)), .ref 11]) (fun _ => rfl) ?_
            refine mEnds.cut (l := [some (.ref 10), some (.int x1), some (.int x2), some (.int x3), some (.int x4), none]) ⟨rfl, ⟨rfl, ⟨rfl, ⟨rfl, ⟨rfl, trivial⟩⟩⟩⟩⟩ ?_
            exact ok_M_hourOn_124 (ok_M_hourOn_8 fu) hf
        · rw [if_neg hc3] at hf
          refine t_jT (t := 126) (rfl : mfetch 132 69 = some (69, .ifCond .ne 57, 3, 0, 0, 0)) rfl (k_ne hc3) ?_
          refine mEnds.stp 2 (pc' := 8) (l' := [some (.ref 10), some (.int x1), some (.int x2), some (.int x3), some (.int (x4 + (nI 1))), none]) (st' := []) (fun _ => rfl) ?_
          refine mEnds.cut (l := [some (.ref 10), some (.int x1), some (.int x2), some (.int x3), some (.int (x4 + (nI 1))), none]) ⟨rfl, ⟨rfl, ⟨rfl, ⟨rfl, ⟨rfl, trivial⟩⟩⟩⟩⟩ ?_
          exact ok_M_hourOn_8 fu (x4 + (nI 1)) s1 _ hf
      · rw [if_neg hc2] at hf
        refine t_cT (t := 126) (rfl : mfetch 132 65 = some (65, .if_icmp .ne 61, 3, 0, 0, 0)) rfl (k_ne hc2) ?_
        refine mEnds.stp 2 (pc' := 8) (l' := [some (.ref 10), some (.int x1), some (.int x2), some (.int x3), some (.int (x4 + (nI 1))), none]) (st' := []) (fun _ => rfl) ?_
        refine mEnds.cut (l := [some (.ref 10), some (.int x1), some (.int x2), some (.int x3), some (.int (x4 + (nI 1))), none]) ⟨rfl, ⟨rfl, ⟨rfl, ⟨rfl, ⟨rfl, trivial⟩⟩⟩⟩⟩ ?_
        exact ok_M_hourOn_8 fu (x4 + (nI 1)) s1 _ hf
    · rw [if_neg hc1] at hf
      refine t_cT (t := 132) (rfl : mfetch 132 14 = some (14, .if_icmp .ge 118, 3, 0, 0, 0)) rfl (k_ge hc1) ?_
      refine mEnds.stp 2 (pc' := 135) (l' := [some (.ref 10), some (.int x1), some (.int x2), some (.int x3), some (.int (nI 0)), none]) (st' := []) (fun _ => rfl) ?_
      refine mEnds.cut (l := [some (.ref 10), some (.int x1), none, none, some (.int (nI 0)), none]) ⟨rfl, ⟨rfl, ⟨rfl, trivial⟩⟩⟩ ?_
      exact ok_M_hourOn_135 FU (nI 0) s _ hf
def M_hourOn (x1 : Int32) (x2 : Int32) (x3 : Int32) (s : sg) : Option sg :=
  (M_tonguesOn x1 s).bind fun s1 =>
  M_hourOn_8 x1 x2 x3 FU (nI 0) s1
set_option maxRecDepth 100000 in
theorem ok_M_hourOn {x1 : Int32} {x2 : Int32} {x3 : Int32} {s : sg} {rv : sg} (hf : M_hourOn x1 x2 x3 s = some rv) : mEnds [] 2 132 (0, [some (.ref 10), some (.int x1), some (.int x2), some (.int x3), none, none], [], hp shM s, 0, 0) (none, hp shM rv, 0, 0) := by
  unfold M_hourOn at hf
  refine mEnds.stp 2 (pc' := 2) (l' := [some (.ref 10), some (.int x1), some (.int x2), some (.int x3), none, none]) (st' := [.int x1, .ref 10]) (fun _ => rfl) ?_
  obtain ⟨s1, hs1, hf⟩ := ob hf
  refine t_cv (as := [.int x1]) (st := []) (rfl : mfetch 132 2 = some (2, .invokevirtual 151, 3, 131, 0, 0)) rfl rfl rfl rfl rfl (ok_M_tonguesOn hs1) ?_
  refine mEnds.stp 2 (pc' := 8) (l' := [some (.ref 10), some (.int x1), some (.int x2), some (.int x3), some (.int (nI 0)), none]) (st' := []) (fun _ => rfl) ?_
  refine mEnds.cut (l := [some (.ref 10), some (.int x1), some (.int x2), some (.int x3), some (.int (nI 0)), none]) ⟨rfl, ⟨rfl, ⟨rfl, ⟨rfl, ⟨rfl, trivial⟩⟩⟩⟩⟩ ?_
  exact ok_M_hourOn_8 FU (nI 0) s1 _ hf
def M_outOn (x1 : Int32) (s : sg) : Option Int32 :=
  (midx (x1 + (nI 49)) 312).bind fun j1 =>
  (midx ((x1 + (nI 41)) + ((s 11 j1) - (s 11 j1) / (nI 8) * (nI 8))) 312).bind fun j2 =>
  some ((s 11 j2) + (nI 10))
set_option maxRecDepth 100000 in
theorem ok_M_outOn {x1 : Int32} {s : sg} {rv : Int32} (hf : M_outOn x1 s = some rv) : mEnds [] 0 133 (0, [some (.ref 10), some (.int x1)], [], hp shM s, 0, 0) (some (.int rv), hp shM s, 0, 0) := by
  unfold M_outOn at hf
  refine mEnds.stp 1 (pc' := 1) (l' := [some (.ref 10), some (.int x1)]) (st' := [.ref 10]) (fun _ => rfl) ?_
  refine t_gr (rfl : mfetch 133 1 = some (1, .getfield 7, 3, 5, 0, 0)) rfl rfl ?_
  refine mEnds.stp 4 (pc' := 9) (l' := [some (.ref 10), some (.int x1)]) (st' := [.ref 10, .int (x1 + (nI 41)), .ref 11]) (fun _ => rfl) ?_
  refine t_gr (rfl : mfetch 133 9 = some (9, .getfield 7, 3, 5, 0, 0)) rfl rfl ?_
  refine mEnds.stp 3 (pc' := 16) (l' := [some (.ref 10), some (.int x1)]) (st' := [.int (x1 + (nI 49)), .ref 11, .int (x1 + (nI 41)), .ref 11]) (fun _ => rfl) ?_
  obtain ⟨j1, hj1, hf⟩ := ob hf
  refine t_ia (rfl : mfetch 133 16 = some (16, .iaload, 1, 0, 0, 0)) rfl rfl hj1 ?_
  refine mEnds.stp 3 (pc' := 21) (l' := [some (.ref 10), some (.int x1)]) (st' := [.int ((x1 + (nI 41)) + ((s 11 j1) - (s 11 j1) / (nI 8) * (nI 8))), .ref 11]) (fun _ => rfl) ?_
  obtain ⟨j2, hj2, hf⟩ := ob hf
  refine t_ia (rfl : mfetch 133 21 = some (21, .iaload, 1, 0, 0, 0)) rfl rfl hj2 ?_
  refine mEnds.stp 2 (pc' := 25) (l' := [some (.ref 10), some (.int x1)]) (st' := [.int ((s 11 j2) + (nI 10))]) (fun _ => rfl) ?_
  cases hf; exact mEnds.rt (fun _ => rfl)
def M_goesOn (x1 : Int32) (s : sg) : Option sg :=
  (M_outOn x1 s).bind fun v1 =>
  (M_hourOn x1 v1 (nI 0) s).bind fun s1 =>
  some s1
set_option maxRecDepth 100000 in
theorem ok_M_goesOn {x1 : Int32} {s : sg} {rv : sg} (hf : M_goesOn x1 s = some rv) : mEnds [] 3 134 (0, [some (.ref 10), some (.int x1)], [], hp shM s, 0, 0) (none, hp shM rv, 0, 0) := by
  unfold M_goesOn at hf
  refine mEnds.stp 4 (pc' := 4) (l' := [some (.ref 10), some (.int x1)]) (st' := [.int x1, .ref 10, .int x1, .ref 10]) (fun _ => rfl) ?_
  obtain ⟨v1, hv1, hf⟩ := ob hf
  refine t_cv (as := [.int x1]) (st := [.int x1, .ref 10]) (rfl : mfetch 134 4 = some (4, .invokevirtual 154, 3, 133, 0, 0)) rfl rfl rfl rfl rfl ((ok_M_outOn hv1).deep 2) ?_
  refine mEnds.stp 1 (pc' := 8) (l' := [some (.ref 10), some (.int x1)]) (st' := [.int (nI 0), .int v1, .int x1, .ref 10]) (fun _ => rfl) ?_
  obtain ⟨s1, hs1, hf⟩ := ob hf
  refine t_cv (as := [.int x1, .int v1, .int (nI 0)]) (st := []) (rfl : mfetch 134 8 = some (8, .invokevirtual 157, 3, 132, 0, 0)) rfl rfl rfl rfl rfl (ok_M_hourOn hs1) ?_
  cases hf; exact mEnds.rt (fun _ => rfl)
def M_warmthOn_4 (x1 : Int32) (s : sg) : Nat → Int32 → Int32 → Option Int32
  | 0, _, _ => none
  | fu + 1, x2, x3 =>
  if x3 < s 10 1 then
    (midx (x1 + x3) 312).bind fun j1 =>
    M_warmthOn_4 x1 s fu (x2 + (s 11 j1)) (x3 + (nI 1))
  else
    some x2
set_option maxRecDepth 100000 in
theorem ok_M_warmthOn_4 {x1 : Int32} {s : sg} : ∀ (fu : Nat) (x2 : Int32) (x3 : Int32) (rv : Int32), M_warmthOn_4 x1 s fu x2 x3 = some rv → mEnds [] 0 135 (4, [some (.ref 10), some (.int x1), some (.int x2), some (.int x3)], [], hp shM s, 0, 0) (some (.int rv), hp shM s, 0, 0)
  | 0, _, _, _, hf => by cases hf
  | fu + 1, x2, x3, rv, hf => by
    rw [M_warmthOn_4] at hf
    refine mEnds.stp 2 (pc' := 6) (l' := [some (.ref 10), some (.int x1), some (.int x2), some (.int x3)]) (st' := [.ref 10, .int x3]) (fun _ => rfl) ?_
    refine t_gi (rfl : mfetch 135 6 = some (6, .getfield 139, 3, 5, 1, 0)) rfl rfl ?_
    by_cases hc1 : x3 < s 10 1
    · rw [if_pos hc1] at hf
      refine t_cF (rfl : mfetch 135 9 = some (9, .if_icmp .ge 20, 3, 0, 0, 0)) (k_ge' hc1) ?_
      refine mEnds.stp 2 (pc' := 14) (l' := [some (.ref 10), some (.int x1), some (.int x2), some (.int x3)]) (st' := [.ref 10, .int x2]) (fun _ => rfl) ?_
      refine t_gr (rfl : mfetch 135 14 = some (14, .getfield 7, 3, 5, 0, 0)) rfl rfl ?_
      refine mEnds.stp 3 (pc' := 20) (l' := [some (.ref 10), some (.int x1), some (.int x2), some (.int x3)]) (st' := [.int (x1 + x3), .ref 11, .int x2]) (fun _ => rfl) ?_
      obtain ⟨j1, hj1, hf⟩ := ob hf
      refine t_ia (rfl : mfetch 135 20 = some (20, .iaload, 1, 0, 0, 0)) rfl rfl hj1 ?_
      refine mEnds.stp 4 (pc' := 4) (l' := [some (.ref 10), some (.int x1), some (.int (x2 + (s 11 j1))), some (.int (x3 + (nI 1)))]) (st' := []) (fun _ => rfl) ?_
      refine mEnds.cut (l := [some (.ref 10), some (.int x1), some (.int (x2 + (s 11 j1))), some (.int (x3 + (nI 1)))]) ⟨rfl, ⟨rfl, ⟨rfl, ⟨rfl, trivial⟩⟩⟩⟩ ?_
      exact ok_M_warmthOn_4 fu (x2 + (s 11 j1)) (x3 + (nI 1)) _ hf
    · rw [if_neg hc1] at hf
      refine t_cT (t := 29) (rfl : mfetch 135 9 = some (9, .if_icmp .ge 20, 3, 0, 0, 0)) rfl (k_ge hc1) ?_
      refine mEnds.stp 1 (pc' := 30) (l' := [some (.ref 10), some (.int x1), some (.int x2), some (.int x3)]) (st' := [.int x2]) (fun _ => rfl) ?_
      cases hf; exact mEnds.rt (fun _ => rfl)
def M_warmthOn (x1 : Int32) (s : sg) : Option Int32 :=
  M_warmthOn_4 x1 s FU (nI 0) (nI 0)
set_option maxRecDepth 100000 in
theorem ok_M_warmthOn {x1 : Int32} {s : sg} {rv : Int32} (hf : M_warmthOn x1 s = some rv) : mEnds [] 0 135 (0, [some (.ref 10), some (.int x1), none, none], [], hp shM s, 0, 0) (some (.int rv), hp shM s, 0, 0) := by
  unfold M_warmthOn at hf
  refine mEnds.stp 4 (pc' := 4) (l' := [some (.ref 10), some (.int x1), some (.int (nI 0)), some (.int (nI 0))]) (st' := []) (fun _ => rfl) ?_
  refine mEnds.cut (l := [some (.ref 10), some (.int x1), some (.int (nI 0)), some (.int (nI 0))]) ⟨rfl, ⟨rfl, ⟨rfl, ⟨rfl, trivial⟩⟩⟩⟩ ?_
  exact ok_M_warmthOn_4 FU (nI 0) (nI 0) _ hf
def M_onOn_4 (x1 : Int32) (s : sg) : Nat → Int32 → Int32 → Option Int32
  | 0, _, _ => none
  | fu + 1, x2, x3 =>
  if x3 < s 10 1 then
    (midx ((x1 + (nI 30)) + x3) 312).bind fun j1 =>
    M_onOn_4 x1 s fu (x2 ||| ((s 11 j1) <<< (x3 &&& 31))) (x3 + (nI 1))
  else
    some x2
set_option maxRecDepth 100000 in
theorem ok_M_onOn_4 {x1 : Int32} {s : sg} : ∀ (fu : Nat) (x2 : Int32) (x3 : Int32) (rv : Int32), M_onOn_4 x1 s fu x2 x3 = some rv → mEnds [] 0 136 (4, [some (.ref 10), some (.int x1), some (.int x2), some (.int x3)], [], hp shM s, 0, 0) (some (.int rv), hp shM s, 0, 0)
  | 0, _, _, _, hf => by cases hf
  | fu + 1, x2, x3, rv, hf => by
    rw [M_onOn_4] at hf
    refine mEnds.stp 2 (pc' := 6) (l' := [some (.ref 10), some (.int x1), some (.int x2), some (.int x3)]) (st' := [.ref 10, .int x3]) (fun _ => rfl) ?_
    refine t_gi (rfl : mfetch 136 6 = some (6, .getfield 139, 3, 5, 1, 0)) rfl rfl ?_
    by_cases hc1 : x3 < s 10 1
    · rw [if_pos hc1] at hf
      refine t_cF (rfl : mfetch 136 9 = some (9, .if_icmp .ge 25, 3, 0, 0, 0)) (k_ge' hc1) ?_
      refine mEnds.stp 2 (pc' := 14) (l' := [some (.ref 10), some (.int x1), some (.int x2), some (.int x3)]) (st' := [.ref 10, .int x2]) (fun _ => rfl) ?_
      refine t_gr (rfl : mfetch 136 14 = some (14, .getfield 7, 3, 5, 0, 0)) rfl rfl ?_
      refine mEnds.stp 5 (pc' := 23) (l' := [some (.ref 10), some (.int x1), some (.int x2), some (.int x3)]) (st' := [.int ((x1 + (nI 30)) + x3), .ref 11, .int x2]) (fun _ => rfl) ?_
      obtain ⟨j1, hj1, hf⟩ := ob hf
      refine t_ia (rfl : mfetch 136 23 = some (23, .iaload, 1, 0, 0, 0)) rfl rfl hj1 ?_
      refine mEnds.stp 6 (pc' := 4) (l' := [some (.ref 10), some (.int x1), some (.int (x2 ||| ((s 11 j1) <<< (x3 &&& 31)))), some (.int (x3 + (nI 1)))]) (st' := []) (fun _ => rfl) ?_
      refine mEnds.cut (l := [some (.ref 10), some (.int x1), some (.int (x2 ||| ((s 11 j1) <<< (x3 &&& 31)))), some (.int (x3 + (nI 1)))]) ⟨rfl, ⟨rfl, ⟨rfl, ⟨rfl, trivial⟩⟩⟩⟩ ?_
      exact ok_M_onOn_4 fu (x2 ||| ((s 11 j1) <<< (x3 &&& 31))) (x3 + (nI 1)) _ hf
    · rw [if_neg hc1] at hf
      refine t_cT (t := 34) (rfl : mfetch 136 9 = some (9, .if_icmp .ge 25, 3, 0, 0, 0)) rfl (k_ge hc1) ?_
      refine mEnds.stp 1 (pc' := 35) (l' := [some (.ref 10), some (.int x1), some (.int x2), some (.int x3)]) (st' := [.int x2]) (fun _ => rfl) ?_
      cases hf; exact mEnds.rt (fun _ => rfl)
def M_onOn (x1 : Int32) (s : sg) : Option Int32 :=
  M_onOn_4 x1 s FU (nI 0) (nI 0)
set_option maxRecDepth 100000 in
theorem ok_M_onOn {x1 : Int32} {s : sg} {rv : Int32} (hf : M_onOn x1 s = some rv) : mEnds [] 0 136 (0, [some (.ref 10), some (.int x1), none, none], [], hp shM s, 0, 0) (some (.int rv), hp shM s, 0, 0) := by
  unfold M_onOn at hf
  refine mEnds.stp 4 (pc' := 4) (l' := [some (.ref 10), some (.int x1), some (.int (nI 0)), some (.int (nI 0))]) (st' := []) (fun _ => rfl) ?_
  refine mEnds.cut (l := [some (.ref 10), some (.int x1), some (.int (nI 0)), some (.int (nI 0))]) ⟨rfl, ⟨rfl, ⟨rfl, ⟨rfl, trivial⟩⟩⟩⟩ ?_
  exact ok_M_onOn_4 FU (nI 0) (nI 0) _ hf
def M_coldestOn_17 (x1 : Int32) (s : sg) : Nat → Int32 → Int32 → Option Int32
  | 0, _, _ => none
  | fu + 1, x2, x3 =>
  if x3 < s 10 1 then
    (midx (x1 + x3) 312).bind fun j1 =>
    if s 11 j1 < x2 then
      (midx (x1 + x3) 312).bind fun j2 =>
      M_coldestOn_17 x1 s fu (s 11 j2) (x3 + (nI 1))
    else
      M_coldestOn_17 x1 s fu x2 (x3 + (nI 1))
  else
    some x2
set_option maxRecDepth 100000 in
theorem ok_M_coldestOn_17 {x1 : Int32} {s : sg} : ∀ (fu : Nat) (x2 : Int32) (x3 : Int32) (rv : Int32), M_coldestOn_17 x1 s fu x2 x3 = some rv → mEnds [] 0 137 (17, [some (.ref 10), some (.int x1), some (.int x2), some (.int x3)], [], hp shM s, 0, 0) (some (.int rv), hp shM s, 0, 0)
  | 0, _, _, _, hf => by cases hf
  | fu + 1, x2, x3, rv, hf => by
    rw [M_coldestOn_17] at hf
    refine mEnds.stp 2 (pc' := 19) (l' := [some (.ref 10), some (.int x1), some (.int x2), some (.int x3)]) (st' := [.ref 10, .int x3]) (fun _ => rfl) ?_
    refine t_gi (rfl : mfetch 137 19 = some (19, .getfield 139, 3, 5, 1, 0)) rfl rfl ?_
    by_cases hc1 : x3 < s 10 1
    · rw [if_pos hc1] at hf
      refine t_cF (rfl : mfetch 137 22 = some (22, .if_icmp .ge 34, 3, 0, 0, 0)) (k_ge' hc1) ?_
      refine mEnds.stp 1 (pc' := 26) (l' := [some (.ref 10), some (.int x1), some (.int x2), some (.int x3)]) (st' := [.ref 10]) (fun _ => rfl) ?_
      refine t_gr (rfl : mfetch 137 26 = some (26, .getfield 7, 3, 5, 0, 0)) rfl rfl ?_
      refine mEnds.stp 3 (pc' := 32) (l' := [some (.ref 10), some (.int x1), some (.int x2), some (.int x3)]) (st' := [.int (x1 + x3), .ref 11]) (fun _ => rfl) ?_
      obtain ⟨j1, hj1, hf⟩ := ob hf
      refine t_ia (rfl : mfetch 137 32 = some (32, .iaload, 1, 0, 0, 0)) rfl rfl hj1 ?_
      refine mEnds.stp 1 (pc' := 34) (l' := [some (.ref 10), some (.int x1), some (.int x2), some (.int x3)]) (st' := [.int x2, .int (s 11 j1)]) (fun _ => rfl) ?_
      by_cases hc2 : s 11 j1 < x2
      · rw [if_pos hc2] at hf
        refine t_cF (rfl : mfetch 137 34 = some (34, .if_icmp .ge 14, 3, 0, 0, 0)) (k_ge' hc2) ?_
        refine mEnds.stp 1 (pc' := 38) (l' := [some (.ref 10), some (.int x1), some (.int x2), some (.int x3)]) (st' := [.ref 10]) (fun _ => rfl) ?_
        refine t_gr (rfl : mfetch 137 38 = some (38, .getfield 7, 3, 5, 0, 0)) rfl rfl ?_
        refine mEnds.stp 3 (pc' := 44) (l' := [some (.ref 10), some (.int x1), some (.int x2), some (.int x3)]) (st' := [.int (x1 + x3), .ref 11]) (fun _ => rfl) ?_
        obtain ⟨j2, hj2, hf⟩ := ob hf
        refine t_ia (rfl : mfetch 137 44 = some (44, .iaload, 1, 0, 0, 0)) rfl rfl hj2 ?_
        refine mEnds.stp 4 (pc' := 17) (l' := [some (.ref 10), some (.int x1), some (.int (s 11 j2)), some (.int (x3 + (nI 1)))]) (st' := []) (fun _ => rfl) ?_
        refine mEnds.cut (l := [some (.ref 10), some (.int x1), some (.int (s 11 j2)), some (.int (x3 + (nI 1)))]) ⟨rfl, ⟨rfl, ⟨rfl, ⟨rfl, trivial⟩⟩⟩⟩ ?_
        exact ok_M_coldestOn_17 fu (s 11 j2) (x3 + (nI 1)) _ hf
      · rw [if_neg hc2] at hf
        refine t_cT (t := 48) (rfl : mfetch 137 34 = some (34, .if_icmp .ge 14, 3, 0, 0, 0)) rfl (k_ge hc2) ?_
        refine mEnds.stp 4 (pc' := 17) (l' := [some (.ref 10), some (.int x1), some (.int x2), some (.int (x3 + (nI 1)))]) (st' := []) (fun _ => rfl) ?_
        refine mEnds.cut (l := [some (.ref 10), some (.int x1), some (.int x2), some (.int (x3 + (nI 1)))]) ⟨rfl, ⟨rfl, ⟨rfl, ⟨rfl, trivial⟩⟩⟩⟩ ?_
        exact ok_M_coldestOn_17 fu x2 (x3 + (nI 1)) _ hf
    · rw [if_neg hc1] at hf
      refine t_cT (t := 56) (rfl : mfetch 137 22 = some (22, .if_icmp .ge 34, 3, 0, 0, 0)) rfl (k_ge hc1) ?_
      refine mEnds.stp 1 (pc' := 57) (l' := [some (.ref 10), some (.int x1), some (.int x2), some (.int x3)]) (st' := [.int x2]) (fun _ => rfl) ?_
      cases hf; exact mEnds.rt (fun _ => rfl)
def M_coldestOn (x1 : Int32) (s : sg) : Option Int32 :=
  if s 10 1 = 0 then
    M_coldestOn_17 x1 s FU (-4) (nI 0)
  else
    M_coldestOn_17 x1 s FU (nI 99) (nI 0)
set_option maxRecDepth 100000 in
theorem ok_M_coldestOn {x1 : Int32} {s : sg} {rv : Int32} (hf : M_coldestOn x1 s = some rv) : mEnds [] 0 137 (0, [some (.ref 10), some (.int x1), none, none], [], hp shM s, 0, 0) (some (.int rv), hp shM s, 0, 0) := by
  unfold M_coldestOn at hf
  refine mEnds.stp 1 (pc' := 1) (l' := [some (.ref 10), some (.int x1), none, none]) (st' := [.ref 10]) (fun _ => rfl) ?_
  refine t_gi (rfl : mfetch 137 1 = some (1, .getfield 139, 3, 5, 1, 0)) rfl rfl ?_
  by_cases hc1 : s 10 1 = 0
  · rw [if_pos hc1] at hf
    refine t_jF (rfl : mfetch 137 4 = some (4, .ifCond .ne 8, 3, 0, 0, 0)) (k_ne' hc1) ?_
    refine mEnds.stp 5 (pc' := 17) (l' := [some (.ref 10), some (.int x1), some (.int (-4)), some (.int (nI 0))]) (st' := []) (fun _ => rfl) ?_
    refine mEnds.cut (l := [some (.ref 10), some (.int x1), some (.int (-4)), some (.int (nI 0))]) ⟨rfl, ⟨rfl, ⟨rfl, ⟨rfl, trivial⟩⟩⟩⟩ ?_
    exact ok_M_coldestOn_17 FU (-4) (nI 0) _ hf
  · rw [if_neg hc1] at hf
    refine t_jT (t := 12) (rfl : mfetch 137 4 = some (4, .ifCond .ne 8, 3, 0, 0, 0)) rfl (k_ne hc1) ?_
    refine mEnds.stp 4 (pc' := 17) (l' := [some (.ref 10), some (.int x1), some (.int (nI 99)), some (.int (nI 0))]) (st' := []) (fun _ => rfl) ?_
    refine mEnds.cut (l := [some (.ref 10), some (.int x1), some (.int (nI 99)), some (.int (nI 0))]) ⟨rfl, ⟨rfl, ⟨rfl, ⟨rfl, trivial⟩⟩⟩⟩ ?_
    exact ok_M_coldestOn_17 FU (nI 99) (nI 0) _ hf
def M_rule (x1 : Int32) (s : sg) : Option Int32 :=
  if x1 = nI 0 then
    some (s 10 1)
  else
    if x1 = nI 1 then
      (midx (nI 49) 312).bind fun j1 =>
      some (s 11 j1)
    else
      if x1 = nI 2 then
        (midx (nI 50) 312).bind fun j2 =>
        some (s 11 j2)
      else
        if x1 = nI 3 then
          (midx (nI 51) 312).bind fun j3 =>
          some (s 11 j3)
        else
          if x1 = nI 4 then
            (M_warmthOn (nI 0) s).bind fun v1 =>
            some v1
          else
            if x1 = nI 5 then
              (M_onOn (nI 0) s).bind fun v2 =>
              some v2
            else
              if x1 = nI 6 then
                (M_outOn (nI 0) s).bind fun v3 =>
                some v3
              else
                some (-1)
set_option maxRecDepth 100000 in
theorem ok_M_rule {x1 : Int32} {s : sg} {rv : Int32} (hf : M_rule x1 s = some rv) : mEnds [] 1 138 (0, [some (.ref 10), some (.int x1)], [], hp shM s, 0, 0) (some (.int rv), hp shM s, 0, 0) := by
  unfold M_rule at hf
  refine mEnds.stp 1 (pc' := 1) (l' := [some (.ref 10), some (.int x1)]) (st' := [.int x1]) (fun _ => rfl) ?_
  by_cases hc1 : x1 = nI 0
  · rw [if_pos hc1] at hf
    refine t_sw hc1 (fun _ _ _ => rfl) (t := 44) ?_
    refine mEnds.stp 1 (pc' := 45) (l' := [some (.ref 10), some (.int x1)]) (st' := [.ref 10]) (fun _ => rfl) ?_
    refine t_gi (rfl : mfetch 138 45 = some (45, .getfield 139, 3, 5, 1, 0)) rfl rfl ?_
    cases hf; exact mEnds.rt (fun _ => rfl)
  · rw [if_neg hc1] at hf
    by_cases hc2 : x1 = nI 1
    · rw [if_pos hc2] at hf
      refine t_sw hc2 (fun _ _ _ => rfl) (t := 49) ?_
      refine mEnds.stp 1 (pc' := 50) (l' := [some (.ref 10), some (.int x1)]) (st' := [.ref 10]) (fun _ => rfl) ?_
      refine t_gr (rfl : mfetch 138 50 = some (50, .getfield 7, 3, 5, 0, 0)) rfl rfl ?_
      refine mEnds.stp 1 (pc' := 55) (l' := [some (.ref 10), some (.int x1)]) (st' := [.int (nI 49), .ref 11]) (fun _ => rfl) ?_
      obtain ⟨j1, hj1, hf⟩ := ob hf
      refine t_ia (rfl : mfetch 138 55 = some (55, .iaload, 1, 0, 0, 0)) rfl rfl hj1 ?_
      cases hf; exact mEnds.rt (fun _ => rfl)
    · rw [if_neg hc2] at hf
      by_cases hc3 : x1 = nI 2
      · rw [if_pos hc3] at hf
        refine t_sw hc3 (fun _ _ _ => rfl) (t := 57) ?_
        refine mEnds.stp 1 (pc' := 58) (l' := [some (.ref 10), some (.int x1)]) (st' := [.ref 10]) (fun _ => rfl) ?_
        refine t_gr (rfl : mfetch 138 58 = some (58, .getfield 7, 3, 5, 0, 0)) rfl rfl ?_
        refine mEnds.stp 1 (pc' := 63) (l' := [some (.ref 10), some (.int x1)]) (st' := [.int (nI 50), .ref 11]) (fun _ => rfl) ?_
        obtain ⟨j2, hj2, hf⟩ := ob hf
        refine t_ia (rfl : mfetch 138 63 = some (63, .iaload, 1, 0, 0, 0)) rfl rfl hj2 ?_
        cases hf; exact mEnds.rt (fun _ => rfl)
      · rw [if_neg hc3] at hf
        by_cases hc4 : x1 = nI 3
        · rw [if_pos hc4] at hf
          refine t_sw hc4 (fun _ _ _ => rfl) (t := 65) ?_
          refine mEnds.stp 1 (pc' := 66) (l' := [some (.ref 10), some (.int x1)]) (st' := [.ref 10]) (fun _ => rfl) ?_
          refine t_gr (rfl : mfetch 138 66 = some (66, .getfield 7, 3, 5, 0, 0)) rfl rfl ?_
          refine mEnds.stp 1 (pc' := 71) (l' := [some (.ref 10), some (.int x1)]) (st' := [.int (nI 51), .ref 11]) (fun _ => rfl) ?_
          obtain ⟨j3, hj3, hf⟩ := ob hf
          refine t_ia (rfl : mfetch 138 71 = some (71, .iaload, 1, 0, 0, 0)) rfl rfl hj3 ?_
          cases hf; exact mEnds.rt (fun _ => rfl)
        · rw [if_neg hc4] at hf
          by_cases hc5 : x1 = nI 4
          · rw [if_pos hc5] at hf
            refine t_sw hc5 (fun _ _ _ => rfl) (t := 73) ?_
            refine mEnds.stp 2 (pc' := 75) (l' := [some (.ref 10), some (.int x1)]) (st' := [.int (nI 0), .ref 10]) (fun _ => rfl) ?_
            obtain ⟨v1, hv1, hf⟩ := ob hf
            refine t_cv (as := [.int (nI 0)]) (st := []) (rfl : mfetch 138 75 = some (75, .invokevirtual 161, 3, 135, 0, 0)) rfl rfl rfl rfl rfl (ok_M_warmthOn hv1) ?_
            cases hf; exact mEnds.rt (fun _ => rfl)
          · rw [if_neg hc5] at hf
            by_cases hc6 : x1 = nI 5
            · rw [if_pos hc6] at hf
              refine t_sw hc6 (fun _ _ _ => rfl) (t := 79) ?_
              refine mEnds.stp 2 (pc' := 81) (l' := [some (.ref 10), some (.int x1)]) (st' := [.int (nI 0), .ref 10]) (fun _ => rfl) ?_
              obtain ⟨v2, hv2, hf⟩ := ob hf
              refine t_cv (as := [.int (nI 0)]) (st := []) (rfl : mfetch 138 81 = some (81, .invokevirtual 164, 3, 136, 0, 0)) rfl rfl rfl rfl rfl (ok_M_onOn hv2) ?_
              cases hf; exact mEnds.rt (fun _ => rfl)
            · rw [if_neg hc6] at hf
              by_cases hc7 : x1 = nI 6
              · rw [if_pos hc7] at hf
                refine t_sw hc7 (fun _ _ _ => rfl) (t := 85) ?_
                refine mEnds.stp 2 (pc' := 87) (l' := [some (.ref 10), some (.int x1)]) (st' := [.int (nI 0), .ref 10]) (fun _ => rfl) ?_
                obtain ⟨v3, hv3, hf⟩ := ob hf
                refine t_cv (as := [.int (nI 0)]) (st := []) (rfl : mfetch 138 87 = some (87, .invokevirtual 154, 3, 133, 0, 0)) rfl rfl rfl rfl rfl (ok_M_outOn hv3) ?_
                cases hf; exact mEnds.rt (fun _ => rfl)
              · rw [if_neg hc7] at hf
                refine t_swD (t := 91) (rfl : mfetch 138 1 = some (1, .tableswitch 90 0 6 #[43, 48, 56, 64, 72, 78, 84], 43, 0, 0, 0)) rfl (sw_out (fun k hk => match k, hk with | 0, _ => hc1 | 1, _ => hc2 | 2, _ => hc3 | 3, _ => hc4 | 4, _ => hc5 | 5, _ => hc6 | 6, _ => hc7 | k + 7, hk => absurd hk (by omega))) ?_
                refine mEnds.stp 1 (pc' := 92) (l' := [some (.ref 10), some (.int x1)]) (st' := [.int (-1)]) (fun _ => rfl) ?_
                cases hf; exact mEnds.rt (fun _ => rfl)
def M_room (x1 : Int32) (x2 : Int32) (s : sg) : Option Int32 :=
  (M_isRoom x1 s).bind fun v1 =>
  if v1 = 0 then
    some (-1)
  else
    (M_in x2.toInt64 (0 : Int64) (7 : Int64) s).bind fun v2 =>
    if v2 = 0 then
      some (-1)
    else
      if x2 < nI 3 then
        (midx (((nI 6) * x2) + x1) 312).bind fun j4 =>
        some (s 11 j4)
      else
        if x2 = nI 7 then
          (midx ((nI 30) + x1) 312).bind fun j3 =>
          some (s 11 j3)
        else
          (M_hasTongue x1 s).bind fun v3 =>
          if v3 = 0 then
            some (-4)
          else
            if x2 = nI 3 then
              (midx ((nI 18) + x1) 312).bind fun j2 =>
              some ((s 11 j2) - (nI 1))
            else
              if x2 = nI 4 then
                (midx ((nI 24) + x1) 312).bind fun j1 =>
                some (s 11 j1)
              else
                if x2 = nI 5 then
                  (M_lowOn (nI 0) x1 s).bind fun v5 =>
                  some ((nI 10) + v5)
                else
                  (M_highOn (nI 0) x1 s).bind fun v4 =>
                  some v4
set_option maxRecDepth 100000 in
theorem ok_M_room {x1 : Int32} {x2 : Int32} {s : sg} {rv : Int32} (hf : M_room x1 x2 s = some rv) : mEnds [] 2 139 (0, [some (.ref 10), some (.int x1), some (.int x2)], [], hp shM s, 0, 0) (some (.int rv), hp shM s, 0, 0) := by
  unfold M_room at hf
  refine mEnds.stp 2 (pc' := 2) (l' := [some (.ref 10), some (.int x1), some (.int x2)]) (st' := [.int x1, .ref 10]) (fun _ => rfl) ?_
  obtain ⟨v1, hv1, hf⟩ := ob hf
  refine t_cv (as := [.int x1]) (st := []) (rfl : mfetch 139 2 = some (2, .invokevirtual 167, 3, 126, 0, 0)) rfl rfl rfl rfl rfl (ok_M_isRoom hv1) ?_
  by_cases hc1 : v1 = 0
  · rw [if_pos hc1] at hf
    refine t_jT (t := 20) (rfl : mfetch 139 5 = some (5, .ifCond .eq 15, 3, 0, 0, 0)) rfl (k_eq hc1) ?_
    refine mEnds.stp 1 (pc' := 21) (l' := [some (.ref 10), some (.int x1), some (.int x2)]) (st' := [.int (-1)]) (fun _ => rfl) ?_
    cases hf; exact mEnds.rt (fun _ => rfl)
  · rw [if_neg hc1] at hf
    refine t_jF (rfl : mfetch 139 5 = some (5, .ifCond .eq 15, 3, 0, 0, 0)) (k_eq' hc1) ?_
    refine mEnds.stp 4 (pc' := 14) (l' := [some (.ref 10), some (.int x1), some (.int x2)]) (st' := [.long (7 : Int64), .long (0 : Int64), .long x2.toInt64]) (fun _ => rfl) ?_
    obtain ⟨v2, hv2, hf⟩ := ob hf
    refine t_cs (as := [.long x2.toInt64, .long (0 : Int64), .long (7 : Int64)]) (st := []) (Or.inl rfl) (rfl : mfetch 139 14 = some (14, .invokestatic 49, 3, 111, 0, 0)) rfl rfl rfl ((ok_M_in hv2).deep 1) ?_
    by_cases hc2 : v2 = 0
    · rw [if_pos hc2] at hf
      refine t_jF (rfl : mfetch 139 17 = some (17, .ifCond .ne 5, 3, 0, 0, 0)) (k_ne' hc2) ?_
      refine mEnds.stp 1 (pc' := 21) (l' := [some (.ref 10), some (.int x1), some (.int x2)]) (st' := [.int (-1)]) (fun _ => rfl) ?_
      cases hf; exact mEnds.rt (fun _ => rfl)
    · rw [if_neg hc2] at hf
      refine t_jT (t := 22) (rfl : mfetch 139 17 = some (17, .ifCond .ne 5, 3, 0, 0, 0)) rfl (k_ne hc2) ?_
      refine mEnds.stp 2 (pc' := 24) (l' := [some (.ref 10), some (.int x1), some (.int x2)]) (st' := [.int (nI 3), .int x2]) (fun _ => rfl) ?_
      by_cases hc3 : x2 < nI 3
      · rw [if_pos hc3] at hf
        refine t_cF (rfl : mfetch 139 24 = some (24, .if_icmp .ge 15, 3, 0, 0, 0)) (k_ge' hc3) ?_
        refine mEnds.stp 1 (pc' := 28) (l' := [some (.ref 10), some (.int x1), some (.int x2)]) (st' := [.ref 10]) (fun _ => rfl) ?_
        refine t_gr (rfl : mfetch 139 28 = some (28, .getfield 7, 3, 5, 0, 0)) rfl rfl ?_
        refine mEnds.stp 5 (pc' := 37) (l' := [some (.ref 10), some (.int x1), some (.int x2)]) (st' := [.int (((nI 6) * x2) + x1), .ref 11]) (fun _ => rfl) ?_
        obtain ⟨j4, hj4, hf⟩ := ob hf
        refine t_ia (rfl : mfetch 139 37 = some (37, .iaload, 1, 0, 0, 0)) rfl rfl hj4 ?_
        cases hf; exact mEnds.rt (fun _ => rfl)
      · rw [if_neg hc3] at hf
        refine t_cT (t := 39) (rfl : mfetch 139 24 = some (24, .if_icmp .ge 15, 3, 0, 0, 0)) rfl (k_ge hc3) ?_
        refine mEnds.stp 2 (pc' := 42) (l' := [some (.ref 10), some (.int x1), some (.int x2)]) (st' := [.int (nI 7), .int x2]) (fun _ => rfl) ?_
        by_cases hc4 : x2 = nI 7
        · rw [if_pos hc4] at hf
          refine t_cF (rfl : mfetch 139 42 = some (42, .if_icmp .ne 13, 3, 0, 0, 0)) (k_ne' hc4) ?_
          refine mEnds.stp 1 (pc' := 46) (l' := [some (.ref 10), some (.int x1), some (.int x2)]) (st' := [.ref 10]) (fun _ => rfl) ?_
          refine t_gr (rfl : mfetch 139 46 = some (46, .getfield 7, 3, 5, 0, 0)) rfl rfl ?_
          refine mEnds.stp 3 (pc' := 53) (l' := [some (.ref 10), some (.int x1), some (.int x2)]) (st' := [.int ((nI 30) + x1), .ref 11]) (fun _ => rfl) ?_
          obtain ⟨j3, hj3, hf⟩ := ob hf
          refine t_ia (rfl : mfetch 139 53 = some (53, .iaload, 1, 0, 0, 0)) rfl rfl hj3 ?_
          cases hf; exact mEnds.rt (fun _ => rfl)
        · rw [if_neg hc4] at hf
          refine t_cT (t := 55) (rfl : mfetch 139 42 = some (42, .if_icmp .ne 13, 3, 0, 0, 0)) rfl (k_ne hc4) ?_
          refine mEnds.stp 2 (pc' := 57) (l' := [some (.ref 10), some (.int x1), some (.int x2)]) (st' := [.int x1, .ref 10]) (fun _ => rfl) ?_
          obtain ⟨v3, hv3, hf⟩ := ob hf
          refine t_cv (as := [.int x1]) (st := []) (rfl : mfetch 139 57 = some (57, .invokevirtual 173, 3, 128, 0, 0)) rfl rfl rfl rfl rfl ((ok_M_hasTongue hv3).deep 1) ?_
          by_cases hc5 : v3 = 0
          · rw [if_pos hc5] at hf
            refine t_jF (rfl : mfetch 139 60 = some (60, .ifCond .ne 6, 3, 0, 0, 0)) (k_ne' hc5) ?_
            refine mEnds.stp 1 (pc' := 65) (l' := [some (.ref 10), some (.int x1), some (.int x2)]) (st' := [.int (-4)]) (fun _ => rfl) ?_
            cases hf; exact mEnds.rt (fun _ => rfl)
          · rw [if_neg hc5] at hf
            refine t_jT (t := 66) (rfl : mfetch 139 60 = some (60, .ifCond .ne 6, 3, 0, 0, 0)) rfl (k_ne hc5) ?_
            refine mEnds.stp 2 (pc' := 68) (l' := [some (.ref 10), some (.int x1), some (.int x2)]) (st' := [.int (nI 3), .int x2]) (fun _ => rfl) ?_
            by_cases hc6 : x2 = nI 3
            · rw [if_pos hc6] at hf
              refine t_cF (rfl : mfetch 139 68 = some (68, .if_icmp .ne 17, 3, 0, 0, 0)) (k_ne' hc6) ?_
              refine mEnds.stp 1 (pc' := 72) (l' := [some (.ref 10), some (.int x1), some (.int x2)]) (st' := [.ref 10]) (fun _ => rfl) ?_
              refine t_gr (rfl : mfetch 139 72 = some (72, .getfield 7, 3, 5, 0, 0)) rfl rfl ?_
              refine mEnds.stp 3 (pc' := 79) (l' := [some (.ref 10), some (.int x1), some (.int x2)]) (st' := [.int ((nI 18) + x1), .ref 11]) (fun _ => rfl) ?_
              obtain ⟨j2, hj2, hf⟩ := ob hf
              refine t_ia (rfl : mfetch 139 79 = some (79, .iaload, 1, 0, 0, 0)) rfl rfl hj2 ?_
              refine mEnds.stp 3 (pc' := 125) (l' := [some (.ref 10), some (.int x1), some (.int x2)]) (st' := [.int ((s 11 j2) - (nI 1))]) (fun _ => rfl) ?_
              cases hf; exact mEnds.rt (fun _ => rfl)
            · rw [if_neg hc6] at hf
              refine t_cT (t := 85) (rfl : mfetch 139 68 = some (68, .if_icmp .ne 17, 3, 0, 0, 0)) rfl (k_ne hc6) ?_
              refine mEnds.stp 2 (pc' := 87) (l' := [some (.ref 10), some (.int x1), some (.int x2)]) (st' := [.int (nI 4), .int x2]) (fun _ => rfl) ?_
              by_cases hc7 : x2 = nI 4
              · rw [if_pos hc7] at hf
                refine t_cF (rfl : mfetch 139 87 = some (87, .if_icmp .ne 15, 3, 0, 0, 0)) (k_ne' hc7) ?_
                refine mEnds.stp 1 (pc' := 91) (l' := [some (.ref 10), some (.int x1), some (.int x2)]) (st' := [.ref 10]) (fun _ => rfl) ?_
                refine t_gr (rfl : mfetch 139 91 = some (91, .getfield 7, 3, 5, 0, 0)) rfl rfl ?_
                refine mEnds.stp 3 (pc' := 98) (l' := [some (.ref 10), some (.int x1), some (.int x2)]) (st' := [.int ((nI 24) + x1), .ref 11]) (fun _ => rfl) ?_
                obtain ⟨j1, hj1, hf⟩ := ob hf
                refine t_ia (rfl : mfetch 139 98 = some (98, .iaload, 1, 0, 0, 0)) rfl rfl hj1 ?_
                refine mEnds.stp 1 (pc' := 125) (l' := [some (.ref 10), some (.int x1), some (.int x2)]) (st' := [.int (s 11 j1)]) (fun _ => rfl) ?_
                cases hf; exact mEnds.rt (fun _ => rfl)
              · rw [if_neg hc7] at hf
                refine t_cT (t := 102) (rfl : mfetch 139 87 = some (87, .if_icmp .ne 15, 3, 0, 0, 0)) rfl (k_ne hc7) ?_
                refine mEnds.stp 2 (pc' := 104) (l' := [some (.ref 10), some (.int x1), some (.int x2)]) (st' := [.int (nI 5), .int x2]) (fun _ => rfl) ?_
                by_cases hc8 : x2 = nI 5
                · rw [if_pos hc8] at hf
                  refine t_cF (rfl : mfetch 139 104 = some (104, .if_icmp .ne 15, 3, 0, 0, 0)) (k_ne' hc8) ?_
                  refine mEnds.stp 4 (pc' := 112) (l' := [some (.ref 10), some (.int x1), some (.int x2)]) (st' := [.int x1, .int (nI 0), .ref 10, .int (nI 10)]) (fun _ => rfl) ?_
                  obtain ⟨v5, hv5, hf⟩ := ob hf
                  refine t_cv (as := [.int (nI 0), .int x1]) (st := [.int (nI 10)]) (rfl : mfetch 139 112 = some (112, .invokevirtual 145, 3, 129, 0, 0)) rfl rfl rfl rfl rfl ((ok_M_lowOn hv5).deep 1) ?_
                  refine mEnds.stp 2 (pc' := 125) (l' := [some (.ref 10), some (.int x1), some (.int x2)]) (st' := [.int ((nI 10) + v5)]) (fun _ => rfl) ?_
                  cases hf; exact mEnds.rt (fun _ => rfl)
                · rw [if_neg hc8] at hf
                  refine t_cT (t := 119) (rfl : mfetch 139 104 = some (104, .if_icmp .ne 15, 3, 0, 0, 0)) rfl (k_ne hc8) ?_
                  refine mEnds.stp 3 (pc' := 122) (l' := [some (.ref 10), some (.int x1), some (.int x2)]) (st' := [.int x1, .int (nI 0), .ref 10]) (fun _ => rfl) ?_
                  obtain ⟨v4, hv4, hf⟩ := ob hf
                  refine t_cv (as := [.int (nI 0), .int x1]) (st := []) (rfl : mfetch 139 122 = some (122, .invokevirtual 148, 3, 130, 0, 0)) rfl rfl rfl rfl rfl ((ok_M_highOn hv4).deep 1) ?_
                  cases hf; exact mEnds.rt (fun _ => rfl)
def M_wall (x1 : Int32) (s : sg) : Option Int32 :=
  (M_isWall x1 s).bind fun v1 =>
  if v1 = 0 then
    some (-1)
  else
    (midx ((nI 36) + x1) 312).bind fun j1 =>
    some ((s 11 j1) + (nI 2))
set_option maxRecDepth 100000 in
theorem ok_M_wall {x1 : Int32} {s : sg} {rv : Int32} (hf : M_wall x1 s = some rv) : mEnds [] 2 140 (0, [some (.ref 10), some (.int x1)], [], hp shM s, 0, 0) (some (.int rv), hp shM s, 0, 0) := by
  unfold M_wall at hf
  refine mEnds.stp 2 (pc' := 2) (l' := [some (.ref 10), some (.int x1)]) (st' := [.int x1, .ref 10]) (fun _ => rfl) ?_
  obtain ⟨v1, hv1, hf⟩ := ob hf
  refine t_cv (as := [.int x1]) (st := []) (rfl : mfetch 140 2 = some (2, .invokevirtual 176, 3, 127, 0, 0)) rfl rfl rfl rfl rfl (ok_M_isWall hv1) ?_
  by_cases hc1 : v1 = 0
  · rw [if_pos hc1] at hf
    refine t_jT (t := 22) (rfl : mfetch 140 5 = some (5, .ifCond .eq 17, 3, 0, 0, 0)) rfl (k_eq hc1) ?_
    refine mEnds.stp 1 (pc' := 23) (l' := [some (.ref 10), some (.int x1)]) (st' := [.int (-1)]) (fun _ => rfl) ?_
    cases hf; exact mEnds.rt (fun _ => rfl)
  · rw [if_neg hc1] at hf
    refine t_jF (rfl : mfetch 140 5 = some (5, .ifCond .eq 17, 3, 0, 0, 0)) (k_eq' hc1) ?_
    refine mEnds.stp 1 (pc' := 9) (l' := [some (.ref 10), some (.int x1)]) (st' := [.ref 10]) (fun _ => rfl) ?_
    refine t_gr (rfl : mfetch 140 9 = some (9, .getfield 7, 3, 5, 0, 0)) rfl rfl ?_
    refine mEnds.stp 3 (pc' := 16) (l' := [some (.ref 10), some (.int x1)]) (st' := [.int ((nI 36) + x1), .ref 11]) (fun _ => rfl) ?_
    obtain ⟨j1, hj1, hf⟩ := ob hf
    refine t_ia (rfl : mfetch 140 16 = some (16, .iaload, 1, 0, 0, 0)) rfl rfl hj1 ?_
    refine mEnds.stp 3 (pc' := 23) (l' := [some (.ref 10), some (.int x1)]) (st' := [.int ((s 11 j1) + (nI 2))]) (fun _ => rfl) ?_
    cases hf; exact mEnds.rt (fun _ => rfl)
def M_outside (x1 : Int32) (s : sg) : Option Int32 :=
  (M_in x1.toInt64 (0 : Int64) (7 : Int64) s).bind fun v1 =>
  if v1 = 0 then
    some (-1)
  else
    (midx ((nI 41) + x1) 312).bind fun j1 =>
    some ((s 11 j1) + (nI 10))
set_option maxRecDepth 100000 in
theorem ok_M_outside {x1 : Int32} {s : sg} {rv : Int32} (hf : M_outside x1 s = some rv) : mEnds [] 1 141 (0, [some (.ref 10), some (.int x1)], [], hp shM s, 0, 0) (some (.int rv), hp shM s, 0, 0) := by
  unfold M_outside at hf
  refine mEnds.stp 4 (pc' := 6) (l' := [some (.ref 10), some (.int x1)]) (st' := [.long (7 : Int64), .long (0 : Int64), .long x1.toInt64]) (fun _ => rfl) ?_
  obtain ⟨v1, hv1, hf⟩ := ob hf
  refine t_cs (as := [.long x1.toInt64, .long (0 : Int64), .long (7 : Int64)]) (st := []) (Or.inl rfl) (rfl : mfetch 141 6 = some (6, .invokestatic 49, 3, 111, 0, 0)) rfl rfl rfl (ok_M_in hv1) ?_
  by_cases hc1 : v1 = 0
  · rw [if_pos hc1] at hf
    refine t_jT (t := 27) (rfl : mfetch 141 9 = some (9, .ifCond .eq 18, 3, 0, 0, 0)) rfl (k_eq hc1) ?_
    refine mEnds.stp 1 (pc' := 28) (l' := [some (.ref 10), some (.int x1)]) (st' := [.int (-1)]) (fun _ => rfl) ?_
    cases hf; exact mEnds.rt (fun _ => rfl)
  · rw [if_neg hc1] at hf
    refine t_jF (rfl : mfetch 141 9 = some (9, .ifCond .eq 18, 3, 0, 0, 0)) (k_eq' hc1) ?_
    refine mEnds.stp 1 (pc' := 13) (l' := [some (.ref 10), some (.int x1)]) (st' := [.ref 10]) (fun _ => rfl) ?_
    refine t_gr (rfl : mfetch 141 13 = some (13, .getfield 7, 3, 5, 0, 0)) rfl rfl ?_
    refine mEnds.stp 3 (pc' := 20) (l' := [some (.ref 10), some (.int x1)]) (st' := [.int ((nI 41) + x1), .ref 11]) (fun _ => rfl) ?_
    obtain ⟨j1, hj1, hf⟩ := ob hf
    refine t_ia (rfl : mfetch 141 20 = some (20, .iaload, 1, 0, 0, 0)) rfl rfl hj1 ?_
    refine mEnds.stp 3 (pc' := 28) (l' := [some (.ref 10), some (.int x1)]) (st' := [.int ((s 11 j1) + (nI 10))]) (fun _ => rfl) ?_
    cases hf; exact mEnds.rt (fun _ => rfl)
def M_puts (x1 : Int32) (x2 : Int32) (x3 : Int32) (x4 : Int32) (s : sg) : Option (Int32 × sg) :=
  if x1 = 0 then
    some ((-1), s)
  else
    (midx x2 312).bind fun j1 =>
    (midx x2 312).bind fun j2 =>
    (some (up s 11 j2 (x3 - x4))).bind fun s1 =>
    some ((s 11 j1) + x4, s1)
set_option maxRecDepth 100000 in
theorem ok_M_puts {x1 : Int32} {x2 : Int32} {x3 : Int32} {x4 : Int32} {s : sg} {rv : (Int32 × sg)} (hf : M_puts x1 x2 x3 x4 s = some rv) : mEnds [] 0 142 (0, [some (.ref 10), some (.int x1), some (.int x2), some (.int x3), some (.int x4), none], [], hp shM s, 0, 0) (some (.int rv.1), hp shM rv.2, 0, 0) := by
  unfold M_puts at hf
  refine mEnds.stp 1 (pc' := 1) (l' := [some (.ref 10), some (.int x1), some (.int x2), some (.int x3), some (.int x4), none]) (st' := [.int x1]) (fun _ => rfl) ?_
  by_cases hc1 : x1 = 0
  · rw [if_pos hc1] at hf
    refine t_jF (rfl : mfetch 142 1 = some (1, .ifCond .ne 5, 3, 0, 0, 0)) (k_ne' hc1) ?_
    refine mEnds.stp 1 (pc' := 5) (l' := [some (.ref 10), some (.int x1), some (.int x2), some (.int x3), some (.int x4), none]) (st' := [.int (-1)]) (fun _ => rfl) ?_
    exact mEnds.rti (Option.some.inj hf) (fun _ => rfl)
  · rw [if_neg hc1] at hf
    refine t_jT (t := 6) (rfl : mfetch 142 1 = some (1, .ifCond .ne 5, 3, 0, 0, 0)) rfl (k_ne hc1) ?_
    refine mEnds.stp 1 (pc' := 7) (l' := [some (.ref 10), some (.int x1), some (.int x2), some (.int x3), some (.int x4), none]) (st' := [.ref 10]) (fun _ => rfl) ?_
    refine t_gr (rfl : mfetch 142 7 = some (7, .getfield 7, 3, 5, 0, 0)) rfl rfl ?_
    refine mEnds.stp 1 (pc' := 11) (l' := [some (.ref 10), some (.int x1), some (.int x2), some (.int x3), some (.int x4), none]) (st' := [.int x2, .ref 11]) (fun _ => rfl) ?_
    obtain ⟨j1, hj1, hf⟩ := ob hf
    refine t_ia (rfl : mfetch 142 11 = some (11, .iaload, 1, 0, 0, 0)) rfl rfl hj1 ?_
    refine mEnds.stp 4 (pc' := 18) (l' := [some (.ref 10), some (.int x1), some (.int x2), some (.int x3), some (.int x4), some (.int ((s 11 j1) + x4))]) (st' := [.ref 10]) (fun _ => rfl) ?_
    refine t_gr (rfl : mfetch 142 18 = some (18, .getfield 7, 3, 5, 0, 0)) rfl rfl ?_
    refine mEnds.stp 4 (pc' := 26) (l' := [some (.ref 10), some (.int x1), some (.int x2), some (.int x3), some (.int x4), some (.int ((s 11 j1) + x4))]) (st' := [.int (x3 - x4), .int x2, .ref 11]) (fun _ => rfl) ?_
    obtain ⟨j2, hj2, hf⟩ := ob hf
    obtain ⟨s1, hs1, hf⟩ := ob hf
    refine t_is (rfl : mfetch 142 26 = some (26, .iastore, 1, 0, 0, 0)) rfl rfl hj2 hs1 ?_
    refine mEnds.stp 1 (pc' := 29) (l' := [some (.ref 10), some (.int x1), some (.int x2), some (.int x3), some (.int x4), some (.int ((s 11 j1) + x4))]) (st' := [.int ((s 11 j1) + x4)]) (fun _ => rfl) ?_
    exact mEnds.rti (Option.some.inj hf) (fun _ => rfl)
