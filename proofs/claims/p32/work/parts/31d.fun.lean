def M_alter_48 (x1 : Int32) (x2 : Int32) (x3 : Int32) (y0 : Int32) (s : sg) : Option (Int32 × sg) :=
  (M_puts y0 (((nI 6) * x2) + x1) x3 (nI 0) s).bind fun v1 =>
  some (v1.1, v1.2)
set_option maxRecDepth 100000 in
theorem ok_M_alter_48 {x1 : Int32} {x2 : Int32} {x3 : Int32} {y0 : Int32} {s : sg} {rv : (Int32 × sg)} (hf : M_alter_48 x1 x2 x3 y0 s = some rv) : mEnds [] 2 143 (48, [none, some (.int x1), some (.int x2), some (.int x3)], [.int y0, .ref 10], hp shM s, 0, 0) (some (.int rv.1), hp shM rv.2, 0, 0) := by
  unfold M_alter_48 at hf
  refine mEnds.stp 7 (pc' := 56) (l' := [none, some (.int x1), some (.int x2), some (.int x3)]) (st' := [.int (nI 0), .int x3, .int (((nI 6) * x2) + x1), .int y0, .ref 10]) (fun _ => rfl) ?_
  obtain ⟨v1, hv1, hf⟩ := ob hf
  refine t_cv (as := [.int y0, .int (((nI 6) * x2) + x1), .int x3, .int (nI 0)]) (st := []) (rfl : mfetch 143 56 = some (56, .invokevirtual 185, 3, 142, 0, 0)) rfl rfl rfl rfl rfl ((ok_M_puts hv1).deep 1) ?_
  exact mEnds.rti (Option.some.inj hf) (fun _ => rfl)
def M_alter_47 (x1 : Int32) (x2 : Int32) (x3 : Int32) (s : sg) : Option (Int32 × sg) :=
  M_alter_48 x1 x2 x3 (nI 0) s
set_option maxRecDepth 100000 in
theorem ok_M_alter_47 {x1 : Int32} {x2 : Int32} {x3 : Int32} {s : sg} {rv : (Int32 × sg)} (hf : M_alter_47 x1 x2 x3 s = some rv) : mEnds [] 2 143 (47, [none, some (.int x1), some (.int x2), some (.int x3)], [.ref 10], hp shM s, 0, 0) (some (.int rv.1), hp shM rv.2, 0, 0) := by
  unfold M_alter_47 at hf
  refine mEnds.stp 1 (pc' := 48) (l' := [none, some (.int x1), some (.int x2), some (.int x3)]) (st' := [.int (nI 0), .ref 10]) (fun _ => rfl) ?_
  refine mEnds.cut (l := [none, some (.int x1), some (.int x2), some (.int x3)]) ⟨rfl, ⟨rfl, ⟨rfl, trivial⟩⟩⟩ ?_
  exact ok_M_alter_48 hf
def M_alter_37 (x1 : Int32) (x2 : Int32) (x3 : Int32) (y0 : Int64) (y1 : Int64) (y2 : Int64) (s : sg) : Option (Int32 × sg) :=
  (M_in y2 y1 y0 s).bind fun v1 =>
  if v1 = 0 then
    M_alter_47 x1 x2 x3 s
  else
    M_alter_48 x1 x2 x3 (nI 1) s
set_option maxRecDepth 100000 in
theorem ok_M_alter_37 {x1 : Int32} {x2 : Int32} {x3 : Int32} {y0 : Int64} {y1 : Int64} {y2 : Int64} {s : sg} {rv : (Int32 × sg)} (hf : M_alter_37 x1 x2 x3 y0 y1 y2 s = some rv) : mEnds [] 2 143 (37, [none, some (.int x1), some (.int x2), some (.int x3)], [.long y0, .long y1, .long y2, .ref 10], hp shM s, 0, 0) (some (.int rv.1), hp shM rv.2, 0, 0) := by
  unfold M_alter_37 at hf
  obtain ⟨v1, hv1, hf⟩ := ob hf
  refine t_cs (as := [.long y2, .long y1, .long y0]) (st := [.ref 10]) (Or.inl rfl) (rfl : mfetch 143 37 = some (37, .invokestatic 49, 3, 111, 0, 0)) rfl rfl rfl ((ok_M_in hv1).deep 1) ?_
  by_cases hc1 : v1 = 0
  · rw [if_pos hc1] at hf
    refine t_jT (t := 47) (rfl : mfetch 143 40 = some (40, .ifCond .eq 7, 3, 0, 0, 0)) rfl (k_eq hc1) ?_
    refine mEnds.cut (l := [none, some (.int x1), some (.int x2), some (.int x3)]) ⟨rfl, ⟨rfl, ⟨rfl, trivial⟩⟩⟩ ?_
    exact ok_M_alter_47 hf
  · rw [if_neg hc1] at hf
    refine t_jF (rfl : mfetch 143 40 = some (40, .ifCond .eq 7, 3, 0, 0, 0)) (k_eq' hc1) ?_
    refine mEnds.stp 2 (pc' := 48) (l' := [none, some (.int x1), some (.int x2), some (.int x3)]) (st' := [.int (nI 1), .ref 10]) (fun _ => rfl) ?_
    refine mEnds.cut (l := [none, some (.int x1), some (.int x2), some (.int x3)]) ⟨rfl, ⟨rfl, ⟨rfl, trivial⟩⟩⟩ ?_
    exact ok_M_alter_48 hf
def M_alter (x1 : Int32) (x2 : Int32) (x3 : Int32) (s : sg) : Option (Int32 × sg) :=
  (M_isRoom x1 s).bind fun v1 =>
  if v1 = 0 then
    M_alter_47 x1 x2 x3 s
  else
    (M_in x2.toInt64 (0 : Int64) (2 : Int64) s).bind fun v2 =>
    if v2 = 0 then
      M_alter_47 x1 x2 x3 s
    else
      if x2 = 0 then
        M_alter_37 x1 x2 x3 (99 : Int64) (0 : Int64) x3.toInt64 s
      else
        M_alter_37 x1 x2 x3 (9 : Int64) (0 : Int64) x3.toInt64 s
set_option maxRecDepth 100000 in
theorem ok_M_alter {x1 : Int32} {x2 : Int32} {x3 : Int32} {s : sg} {rv : (Int32 × sg)} (hf : M_alter x1 x2 x3 s = some rv) : mEnds [] 2 143 (0, [some (.ref 10), some (.int x1), some (.int x2), some (.int x3)], [], hp shM s, 0, 0) (some (.int rv.1), hp shM rv.2, 0, 0) := by
  unfold M_alter at hf
  refine mEnds.stp 3 (pc' := 3) (l' := [some (.ref 10), some (.int x1), some (.int x2), some (.int x3)]) (st' := [.int x1, .ref 10, .ref 10]) (fun _ => rfl) ?_
  obtain ⟨v1, hv1, hf⟩ := ob hf
  refine t_cv (as := [.int x1]) (st := [.ref 10]) (rfl : mfetch 143 3 = some (3, .invokevirtual 167, 3, 126, 0, 0)) rfl rfl rfl rfl rfl (ok_M_isRoom hv1) ?_
  by_cases hc1 : v1 = 0
  · rw [if_pos hc1] at hf
    refine t_jT (t := 47) (rfl : mfetch 143 6 = some (6, .ifCond .eq 41, 3, 0, 0, 0)) rfl (k_eq hc1) ?_
    refine mEnds.cut (l := [none, some (.int x1), some (.int x2), some (.int x3)]) ⟨rfl, ⟨rfl, ⟨rfl, trivial⟩⟩⟩ ?_
    exact ok_M_alter_47 hf
  · rw [if_neg hc1] at hf
    refine t_jF (rfl : mfetch 143 6 = some (6, .ifCond .eq 41, 3, 0, 0, 0)) (k_eq' hc1) ?_
    refine mEnds.stp 4 (pc' := 15) (l' := [some (.ref 10), some (.int x1), some (.int x2), some (.int x3)]) (st' := [.long (2 : Int64), .long (0 : Int64), .long x2.toInt64, .ref 10]) (fun _ => rfl) ?_
    obtain ⟨v2, hv2, hf⟩ := ob hf
    refine t_cs (as := [.long x2.toInt64, .long (0 : Int64), .long (2 : Int64)]) (st := [.ref 10]) (Or.inl rfl) (rfl : mfetch 143 15 = some (15, .invokestatic 49, 3, 111, 0, 0)) rfl rfl rfl ((ok_M_in hv2).deep 1) ?_
    by_cases hc2 : v2 = 0
    · rw [if_pos hc2] at hf
      refine t_jT (t := 47) (rfl : mfetch 143 18 = some (18, .ifCond .eq 29, 3, 0, 0, 0)) rfl (k_eq hc2) ?_
      refine mEnds.cut (l := [none, some (.int x1), some (.int x2), some (.int x3)]) ⟨rfl, ⟨rfl, ⟨rfl, trivial⟩⟩⟩ ?_
      exact ok_M_alter_47 hf
    · rw [if_neg hc2] at hf
      refine t_jF (rfl : mfetch 143 18 = some (18, .ifCond .eq 29, 3, 0, 0, 0)) (k_eq' hc2) ?_
      refine mEnds.stp 4 (pc' := 25) (l' := [some (.ref 10), some (.int x1), some (.int x2), some (.int x3)]) (st' := [.int x2, .long (0 : Int64), .long x3.toInt64, .ref 10]) (fun _ => rfl) ?_
      by_cases hc3 : x2 = 0
      · rw [if_pos hc3] at hf
        refine t_jF (rfl : mfetch 143 25 = some (25, .ifCond .ne 9, 3, 0, 0, 0)) (k_ne' hc3) ?_
        refine mEnds.stp 2 (pc' := 37) (l' := [some (.ref 10), some (.int x1), some (.int x2), some (.int x3)]) (st' := [.long (99 : Int64), .long (0 : Int64), .long x3.toInt64, .ref 10]) (fun _ => rfl) ?_
        refine mEnds.cut (l := [none, some (.int x1), some (.int x2), some (.int x3)]) ⟨rfl, ⟨rfl, ⟨rfl, trivial⟩⟩⟩ ?_
        exact ok_M_alter_37 hf
      · rw [if_neg hc3] at hf
        refine t_jT (t := 34) (rfl : mfetch 143 25 = some (25, .ifCond .ne 9, 3, 0, 0, 0)) rfl (k_ne hc3) ?_
        refine mEnds.stp 1 (pc' := 37) (l' := [some (.ref 10), some (.int x1), some (.int x2), some (.int x3)]) (st' := [.long (9 : Int64), .long (0 : Int64), .long x3.toInt64, .ref 10]) (fun _ => rfl) ?_
        refine mEnds.cut (l := [none, some (.int x1), some (.int x2), some (.int x3)]) ⟨rfl, ⟨rfl, ⟨rfl, trivial⟩⟩⟩ ?_
        exact ok_M_alter_37 hf
def M_fit_58 (x1 : Int32) (x2 : Int32) (x3 : Int32) (y0 : Int32) (s : sg) : Option (Int32 × sg) :=
  (midx ((nI 18) + x1) 312).bind fun j1 =>
  (some (up s 11 j1 (x2 + (nI 1)))).bind fun s1 =>
  (midx ((nI 24) + x1) 312).bind fun j2 =>
  (some (up s1 11 j2 x3)).bind fun s2 =>
  some (y0, s2)
set_option maxRecDepth 100000 in
theorem ok_M_fit_58 {x1 : Int32} {x2 : Int32} {x3 : Int32} {y0 : Int32} {s : sg} {rv : (Int32 × sg)} (hf : M_fit_58 x1 x2 x3 y0 s = some rv) : mEnds [] 2 144 (58, [some (.ref 10), some (.int x1), some (.int x2), some (.int x3), none], [.int y0], hp shM s, 0, 0) (some (.int rv.1), hp shM rv.2, 0, 0) := by
  unfold M_fit_58 at hf
  refine mEnds.stp 2 (pc' := 61) (l' := [some (.ref 10), some (.int x1), some (.int x2), some (.int x3), some (.int y0)]) (st' := [.ref 10]) (fun _ => rfl) ?_
  refine t_gr (rfl : mfetch 144 61 = some (61, .getfield 7, 3, 5, 0, 0)) rfl rfl ?_
  refine mEnds.stp 6 (pc' := 71) (l' := [some (.ref 10), some (.int x1), some (.int x2), some (.int x3), some (.int y0)]) (st' := [.int (x2 + (nI 1)), .int ((nI 18) + x1), .ref 11]) (fun _ => rfl) ?_
  obtain ⟨j1, hj1, hf⟩ := ob hf
  obtain ⟨s1, hs1, hf⟩ := ob hf
  refine t_is (rfl : mfetch 144 71 = some (71, .iastore, 1, 0, 0, 0)) rfl rfl hj1 hs1 ?_
  refine mEnds.stp 1 (pc' := 73) (l' := [some (.ref 10), some (.int x1), some (.int x2), some (.int x3), some (.int y0)]) (st' := [.ref 10]) (fun _ => rfl) ?_
  refine t_gr (rfl : mfetch 144 73 = some (73, .getfield 7, 3, 5, 0, 0)) rfl rfl ?_
  refine mEnds.stp 4 (pc' := 81) (l' := [some (.ref 10), some (.int x1), some (.int x2), some (.int x3), some (.int y0)]) (st' := [.int x3, .int ((nI 24) + x1), .ref 11]) (fun _ => rfl) ?_
  obtain ⟨j2, hj2, hf⟩ := ob hf
  obtain ⟨s2, hs2, hf⟩ := ob hf
  refine t_is (rfl : mfetch 144 81 = some (81, .iastore, 1, 0, 0, 0)) rfl rfl hj2 hs2 ?_
  refine mEnds.stp 1 (pc' := 84) (l' := [some (.ref 10), some (.int x1), some (.int x2), some (.int x3), some (.int y0)]) (st' := [.int y0]) (fun _ => rfl) ?_
  exact mEnds.rti (Option.some.inj hf) (fun _ => rfl)
def M_fit (x1 : Int32) (x2 : Int32) (x3 : Int32) (s : sg) : Option (Int32 × sg) :=
  (M_isRoom x1 s).bind fun v1 =>
  if v1 = 0 then
    some ((-1), s)
  else
    (M_in x2.toInt64 (0 : Int64) (3 : Int64) s).bind fun v2 =>
    if v2 = 0 then
      some ((-1), s)
    else
      (M_in x3.toInt64 (0 : Int64) (99 : Int64) s).bind fun v3 =>
      if v3 = 0 then
        some ((-1), s)
      else
        (M_hasTongue x1 s).bind fun v4 =>
        if v4 = 0 then
          M_fit_58 x1 x2 x3 (nI 9) s
        else
          (midx ((nI 18) + x1) 312).bind fun j1 =>
          M_fit_58 x1 x2 x3 ((s 11 j1) - (nI 1)) s
set_option maxRecDepth 100000 in
theorem ok_M_fit {x1 : Int32} {x2 : Int32} {x3 : Int32} {s : sg} {rv : (Int32 × sg)} (hf : M_fit x1 x2 x3 s = some rv) : mEnds [] 2 144 (0, [some (.ref 10), some (.int x1), some (.int x2), some (.int x3), none], [], hp shM s, 0, 0) (some (.int rv.1), hp shM rv.2, 0, 0) := by
  unfold M_fit at hf
  refine mEnds.stp 2 (pc' := 2) (l' := [some (.ref 10), some (.int x1), some (.int x2), some (.int x3), none]) (st' := [.int x1, .ref 10]) (fun _ => rfl) ?_
  obtain ⟨v1, hv1, hf⟩ := ob hf
  refine t_cv (as := [.int x1]) (st := []) (rfl : mfetch 144 2 = some (2, .invokevirtual 167, 3, 126, 0, 0)) rfl rfl rfl rfl rfl (ok_M_isRoom hv1) ?_
  by_cases hc1 : v1 = 0
  · rw [if_pos hc1] at hf
    refine t_jT (t := 32) (rfl : mfetch 144 5 = some (5, .ifCond .eq 27, 3, 0, 0, 0)) rfl (k_eq hc1) ?_
    refine mEnds.stp 1 (pc' := 33) (l' := [some (.ref 10), some (.int x1), some (.int x2), some (.int x3), none]) (st' := [.int (-1)]) (fun _ => rfl) ?_
    exact mEnds.rti (Option.some.inj hf) (fun _ => rfl)
  · rw [if_neg hc1] at hf
    refine t_jF (rfl : mfetch 144 5 = some (5, .ifCond .eq 27, 3, 0, 0, 0)) (k_eq' hc1) ?_
    refine mEnds.stp 4 (pc' := 14) (l' := [some (.ref 10), some (.int x1), some (.int x2), some (.int x3), none]) (st' := [.long (3 : Int64), .long (0 : Int64), .long x2.toInt64]) (fun _ => rfl) ?_
    obtain ⟨v2, hv2, hf⟩ := ob hf
    refine t_cs (as := [.long x2.toInt64, .long (0 : Int64), .long (3 : Int64)]) (st := []) (Or.inl rfl) (rfl : mfetch 144 14 = some (14, .invokestatic 49, 3, 111, 0, 0)) rfl rfl rfl ((ok_M_in hv2).deep 1) ?_
    by_cases hc2 : v2 = 0
    · rw [if_pos hc2] at hf
      refine t_jT (t := 32) (rfl : mfetch 144 17 = some (17, .ifCond .eq 15, 3, 0, 0, 0)) rfl (k_eq hc2) ?_
      refine mEnds.stp 1 (pc' := 33) (l' := [some (.ref 10), some (.int x1), some (.int x2), some (.int x3), none]) (st' := [.int (-1)]) (fun _ => rfl) ?_
      exact mEnds.rti (Option.some.inj hf) (fun _ => rfl)
    · rw [if_neg hc2] at hf
      refine t_jF (rfl : mfetch 144 17 = some (17, .ifCond .eq 15, 3, 0, 0, 0)) (k_eq' hc2) ?_
      refine mEnds.stp 4 (pc' := 26) (l' := [some (.ref 10), some (.int x1), some (.int x2), some (.int x3), none]) (st' := [.long (99 : Int64), .long (0 : Int64), .long x3.toInt64]) (fun _ => rfl) ?_
      obtain ⟨v3, hv3, hf⟩ := ob hf
      refine t_cs (as := [.long x3.toInt64, .long (0 : Int64), .long (99 : Int64)]) (st := []) (Or.inl rfl) (rfl : mfetch 144 26 = some (26, .invokestatic 49, 3, 111, 0, 0)) rfl rfl rfl ((ok_M_in hv3).deep 1) ?_
      by_cases hc3 : v3 = 0
      · rw [if_pos hc3] at hf
        refine t_jF (rfl : mfetch 144 29 = some (29, .ifCond .ne 5, 3, 0, 0, 0)) (k_ne' hc3) ?_
        refine mEnds.stp 1 (pc' := 33) (l' := [some (.ref 10), some (.int x1), some (.int x2), some (.int x3), none]) (st' := [.int (-1)]) (fun _ => rfl) ?_
        exact mEnds.rti (Option.some.inj hf) (fun _ => rfl)
      · rw [if_neg hc3] at hf
        refine t_jT (t := 34) (rfl : mfetch 144 29 = some (29, .ifCond .ne 5, 3, 0, 0, 0)) rfl (k_ne hc3) ?_
        refine mEnds.stp 2 (pc' := 36) (l' := [some (.ref 10), some (.int x1), some (.int x2), some (.int x3), none]) (st' := [.int x1, .ref 10]) (fun _ => rfl) ?_
        obtain ⟨v4, hv4, hf⟩ := ob hf
        refine t_cv (as := [.int x1]) (st := []) (rfl : mfetch 144 36 = some (36, .invokevirtual 173, 3, 128, 0, 0)) rfl rfl rfl rfl rfl ((ok_M_hasTongue hv4).deep 1) ?_
        by_cases hc4 : v4 = 0
        · rw [if_pos hc4] at hf
          refine t_jT (t := 56) (rfl : mfetch 144 39 = some (39, .ifCond .eq 17, 3, 0, 0, 0)) rfl (k_eq hc4) ?_
          refine mEnds.stp 1 (pc' := 58) (l' := [some (.ref 10), some (.int x1), some (.int x2), some (.int x3), none]) (st' := [.int (nI 9)]) (fun _ => rfl) ?_
          refine mEnds.cut (l := [some (.ref 10), some (.int x1), some (.int x2), some (.int x3), none]) ⟨rfl, ⟨rfl, ⟨rfl, ⟨rfl, trivial⟩⟩⟩⟩ ?_
          exact ok_M_fit_58 hf
        · rw [if_neg hc4] at hf
          refine t_jF (rfl : mfetch 144 39 = some (39, .ifCond .eq 17, 3, 0, 0, 0)) (k_eq' hc4) ?_
          refine mEnds.stp 1 (pc' := 43) (l' := [some (.ref 10), some (.int x1), some (.int x2), some (.int x3), none]) (st' := [.ref 10]) (fun _ => rfl) ?_
          refine t_gr (rfl : mfetch 144 43 = some (43, .getfield 7, 3, 5, 0, 0)) rfl rfl ?_
          refine mEnds.stp 3 (pc' := 50) (l' := [some (.ref 10), some (.int x1), some (.int x2), some (.int x3), none]) (st' := [.int ((nI 18) + x1), .ref 11]) (fun _ => rfl) ?_
          obtain ⟨j1, hj1, hf⟩ := ob hf
          refine t_ia (rfl : mfetch 144 50 = some (50, .iaload, 1, 0, 0, 0)) rfl rfl hj1 ?_
          refine mEnds.stp 3 (pc' := 58) (l' := [some (.ref 10), some (.int x1), some (.int x2), some (.int x3), none]) (st' := [.int ((s 11 j1) - (nI 1))]) (fun _ => rfl) ?_
          refine mEnds.cut (l := [some (.ref 10), some (.int x1), some (.int x2), some (.int x3), none]) ⟨rfl, ⟨rfl, ⟨rfl, ⟨rfl, trivial⟩⟩⟩⟩ ?_
          exact ok_M_fit_58 hf
def M_stripsOn (x1 : Int32) (x2 : Int32) (s : sg) : Option sg :=
  (midx ((x1 + (nI 18)) + x2) 312).bind fun j1 =>
  (some (up s 11 j1 (nI 0))).bind fun s1 =>
  (midx ((x1 + (nI 24)) + x2) 312).bind fun j2 =>
  (some (up s1 11 j2 (nI 0))).bind fun s2 =>
  (midx ((x1 + (nI 30)) + x2) 312).bind fun j3 =>
  (some (up s2 11 j3 (nI 0))).bind fun s3 =>
  some s3
set_option maxRecDepth 100000 in
theorem ok_M_stripsOn {x1 : Int32} {x2 : Int32} {s : sg} {rv : sg} (hf : M_stripsOn x1 x2 s = some rv) : mEnds [] 0 145 (0, [some (.ref 10), some (.int x1), some (.int x2)], [], hp shM s, 0, 0) (none, hp shM rv, 0, 0) := by
  unfold M_stripsOn at hf
  refine mEnds.stp 1 (pc' := 1) (l' := [some (.ref 10), some (.int x1), some (.int x2)]) (st' := [.ref 10]) (fun _ => rfl) ?_
  refine t_gr (rfl : mfetch 145 1 = some (1, .getfield 7, 3, 5, 0, 0)) rfl rfl ?_
  refine mEnds.stp 6 (pc' := 11) (l' := [some (.ref 10), some (.int x1), some (.int x2)]) (st' := [.int (nI 0), .int ((x1 + (nI 18)) + x2), .ref 11]) (fun _ => rfl) ?_
  obtain ⟨j1, hj1, hf⟩ := ob hf
  obtain ⟨s1, hs1, hf⟩ := ob hf
  refine t_is (rfl : mfetch 145 11 = some (11, .iastore, 1, 0, 0, 0)) rfl rfl hj1 hs1 ?_
  refine mEnds.stp 1 (pc' := 13) (l' := [some (.ref 10), some (.int x1), some (.int x2)]) (st' := [.ref 10]) (fun _ => rfl) ?_
  refine t_gr (rfl : mfetch 145 13 = some (13, .getfield 7, 3, 5, 0, 0)) rfl rfl ?_
  refine mEnds.stp 6 (pc' := 23) (l' := [some (.ref 10), some (.int x1), some (.int x2)]) (st' := [.int (nI 0), .int ((x1 + (nI 24)) + x2), .ref 11]) (fun _ => rfl) ?_
  obtain ⟨j2, hj2, hf⟩ := ob hf
  obtain ⟨s2, hs2, hf⟩ := ob hf
  refine t_is (rfl : mfetch 145 23 = some (23, .iastore, 1, 0, 0, 0)) rfl rfl hj2 hs2 ?_
  refine mEnds.stp 1 (pc' := 25) (l' := [some (.ref 10), some (.int x1), some (.int x2)]) (st' := [.ref 10]) (fun _ => rfl) ?_
  refine t_gr (rfl : mfetch 145 25 = some (25, .getfield 7, 3, 5, 0, 0)) rfl rfl ?_
  refine mEnds.stp 6 (pc' := 35) (l' := [some (.ref 10), some (.int x1), some (.int x2)]) (st' := [.int (nI 0), .int ((x1 + (nI 30)) + x2), .ref 11]) (fun _ => rfl) ?_
  obtain ⟨j3, hj3, hf⟩ := ob hf
  obtain ⟨s3, hs3, hf⟩ := ob hf
  refine t_is (rfl : mfetch 145 35 = some (35, .iastore, 1, 0, 0, 0)) rfl rfl hj3 hs3 ?_
  cases hf; exact mEnds.rt (fun _ => rfl)
def M_strip (x1 : Int32) (s : sg) : Option (Int32 × sg) :=
  (M_isRoom x1 s).bind fun v1 =>
  if v1 = 0 then
    some ((-1), s)
  else
    (M_hasTongue x1 s).bind fun v2 =>
    if v2 = 0 then
      some ((-2), s)
    else
      (midx ((nI 18) + x1) 312).bind fun j1 =>
      (M_stripsOn (nI 0) x1 s).bind fun s1 =>
      some ((s 11 j1) - (nI 1), s1)
set_option maxRecDepth 100000 in
theorem ok_M_strip {x1 : Int32} {s : sg} {rv : (Int32 × sg)} (hf : M_strip x1 s = some rv) : mEnds [] 2 146 (0, [some (.ref 10), some (.int x1), none], [], hp shM s, 0, 0) (some (.int rv.1), hp shM rv.2, 0, 0) := by
  unfold M_strip at hf
  refine mEnds.stp 2 (pc' := 2) (l' := [some (.ref 10), some (.int x1), none]) (st' := [.int x1, .ref 10]) (fun _ => rfl) ?_
  obtain ⟨v1, hv1, hf⟩ := ob hf
  refine t_cv (as := [.int x1]) (st := []) (rfl : mfetch 146 2 = some (2, .invokevirtual 167, 3, 126, 0, 0)) rfl rfl rfl rfl rfl (ok_M_isRoom hv1) ?_
  by_cases hc1 : v1 = 0
  · rw [if_pos hc1] at hf
    refine t_jF (rfl : mfetch 146 5 = some (5, .ifCond .ne 5, 3, 0, 0, 0)) (k_ne' hc1) ?_
    refine mEnds.stp 1 (pc' := 9) (l' := [some (.ref 10), some (.int x1), none]) (st' := [.int (-1)]) (fun _ => rfl) ?_
    exact mEnds.rti (Option.some.inj hf) (fun _ => rfl)
  · rw [if_neg hc1] at hf
    refine t_jT (t := 10) (rfl : mfetch 146 5 = some (5, .ifCond .ne 5, 3, 0, 0, 0)) rfl (k_ne hc1) ?_
    refine mEnds.stp 2 (pc' := 12) (l' := [some (.ref 10), some (.int x1), none]) (st' := [.int x1, .ref 10]) (fun _ => rfl) ?_
    obtain ⟨v2, hv2, hf⟩ := ob hf
    refine t_cv (as := [.int x1]) (st := []) (rfl : mfetch 146 12 = some (12, .invokevirtual 173, 3, 128, 0, 0)) rfl rfl rfl rfl rfl ((ok_M_hasTongue hv2).deep 1) ?_
    by_cases hc2 : v2 = 0
    · rw [if_pos hc2] at hf
      refine t_jF (rfl : mfetch 146 15 = some (15, .ifCond .ne 6, 3, 0, 0, 0)) (k_ne' hc2) ?_
      refine mEnds.stp 1 (pc' := 20) (l' := [some (.ref 10), some (.int x1), none]) (st' := [.int (-2)]) (fun _ => rfl) ?_
      exact mEnds.rti (Option.some.inj hf) (fun _ => rfl)
    · rw [if_neg hc2] at hf
      refine t_jT (t := 21) (rfl : mfetch 146 15 = some (15, .ifCond .ne 6, 3, 0, 0, 0)) rfl (k_ne hc2) ?_
      refine mEnds.stp 1 (pc' := 22) (l' := [some (.ref 10), some (.int x1), none]) (st' := [.ref 10]) (fun _ => rfl) ?_
      refine t_gr (rfl : mfetch 146 22 = some (22, .getfield 7, 3, 5, 0, 0)) rfl rfl ?_
      refine mEnds.stp 3 (pc' := 29) (l' := [some (.ref 10), some (.int x1), none]) (st' := [.int ((nI 18) + x1), .ref 11]) (fun _ => rfl) ?_
      obtain ⟨j1, hj1, hf⟩ := ob hf
      refine t_ia (rfl : mfetch 146 29 = some (29, .iaload, 1, 0, 0, 0)) rfl rfl hj1 ?_
      refine mEnds.stp 6 (pc' := 36) (l' := [some (.ref 10), some (.int x1), some (.int ((s 11 j1) - (nI 1)))]) (st' := [.int x1, .int (nI 0), .ref 10]) (fun _ => rfl) ?_
      obtain ⟨s1, hs1, hf⟩ := ob hf
      refine t_cv (as := [.int (nI 0), .int x1]) (st := []) (rfl : mfetch 146 36 = some (36, .invokevirtual 191, 3, 145, 0, 0)) rfl rfl rfl rfl rfl ((ok_M_stripsOn hs1).deep 1) ?_
      refine mEnds.stp 1 (pc' := 40) (l' := [some (.ref 10), some (.int x1), some (.int ((s 11 j1) - (nI 1)))]) (st' := [.int ((s 11 j1) - (nI 1))]) (fun _ => rfl) ?_
      exact mEnds.rti (Option.some.inj hf) (fun _ => rfl)
def M_marks (x1 : Int32) (x2 : Int32) (s : sg) : Option (Int32 × sg) :=
  (M_isRoom x1 s).bind fun v1 =>
  if v1 = 0 then
    some ((-1), s)
  else
    (M_in x2.toInt64 (0 : Int64) (99 : Int64) s).bind fun v2 =>
    if v2 = 0 then
      some ((-1), s)
    else
      (M_hasTongue x1 s).bind fun v3 =>
      if v3 = 0 then
        some ((-2), s)
      else
        (M_puts (nI 1) ((nI 24) + x1) x2 (nI 0) s).bind fun v4 =>
        some (v4.1, v4.2)
set_option maxRecDepth 100000 in
theorem ok_M_marks {x1 : Int32} {x2 : Int32} {s : sg} {rv : (Int32 × sg)} (hf : M_marks x1 x2 s = some rv) : mEnds [] 2 147 (0, [some (.ref 10), some (.int x1), some (.int x2)], [], hp shM s, 0, 0) (some (.int rv.1), hp shM rv.2, 0, 0) := by
  unfold M_marks at hf
  refine mEnds.stp 2 (pc' := 2) (l' := [some (.ref 10), some (.int x1), some (.int x2)]) (st' := [.int x1, .ref 10]) (fun _ => rfl) ?_
  obtain ⟨v1, hv1, hf⟩ := ob hf
  refine t_cv (as := [.int x1]) (st := []) (rfl : mfetch 147 2 = some (2, .invokevirtual 167, 3, 126, 0, 0)) rfl rfl rfl rfl rfl (ok_M_isRoom hv1) ?_
  by_cases hc1 : v1 = 0
  · rw [if_pos hc1] at hf
    refine t_jT (t := 20) (rfl : mfetch 147 5 = some (5, .ifCond .eq 15, 3, 0, 0, 0)) rfl (k_eq hc1) ?_
    refine mEnds.stp 1 (pc' := 21) (l' := [some (.ref 10), some (.int x1), some (.int x2)]) (st' := [.int (-1)]) (fun _ => rfl) ?_
    exact mEnds.rti (Option.some.inj hf) (fun _ => rfl)
  · rw [if_neg hc1] at hf
    refine t_jF (rfl : mfetch 147 5 = some (5, .ifCond .eq 15, 3, 0, 0, 0)) (k_eq' hc1) ?_
    refine mEnds.stp 4 (pc' := 14) (l' := [some (.ref 10), some (.int x1), some (.int x2)]) (st' := [.long (99 : Int64), .long (0 : Int64), .long x2.toInt64]) (fun _ => rfl) ?_
    obtain ⟨v2, hv2, hf⟩ := ob hf
    refine t_cs (as := [.long x2.toInt64, .long (0 : Int64), .long (99 : Int64)]) (st := []) (Or.inl rfl) (rfl : mfetch 147 14 = some (14, .invokestatic 49, 3, 111, 0, 0)) rfl rfl rfl ((ok_M_in hv2).deep 1) ?_
    by_cases hc2 : v2 = 0
    · rw [if_pos hc2] at hf
      refine t_jF (rfl : mfetch 147 17 = some (17, .ifCond .ne 5, 3, 0, 0, 0)) (k_ne' hc2) ?_
      refine mEnds.stp 1 (pc' := 21) (l' := [some (.ref 10), some (.int x1), some (.int x2)]) (st' := [.int (-1)]) (fun _ => rfl) ?_
      exact mEnds.rti (Option.some.inj hf) (fun _ => rfl)
    · rw [if_neg hc2] at hf
      refine t_jT (t := 22) (rfl : mfetch 147 17 = some (17, .ifCond .ne 5, 3, 0, 0, 0)) rfl (k_ne hc2) ?_
      refine mEnds.stp 2 (pc' := 24) (l' := [some (.ref 10), some (.int x1), some (.int x2)]) (st' := [.int x1, .ref 10]) (fun _ => rfl) ?_
      obtain ⟨v3, hv3, hf⟩ := ob hf
      refine t_cv (as := [.int x1]) (st := []) (rfl : mfetch 147 24 = some (24, .invokevirtual 173, 3, 128, 0, 0)) rfl rfl rfl rfl rfl ((ok_M_hasTongue hv3).deep 1) ?_
      by_cases hc3 : v3 = 0
      · rw [if_pos hc3] at hf
        refine t_jT (t := 44) (rfl : mfetch 147 27 = some (27, .ifCond .eq 17, 3, 0, 0, 0)) rfl (k_eq hc3) ?_
        refine mEnds.stp 1 (pc' := 46) (l' := [some (.ref 10), some (.int x1), some (.int x2)]) (st' := [.int (-2)]) (fun _ => rfl) ?_
        exact mEnds.rti (Option.some.inj hf) (fun _ => rfl)
      · rw [if_neg hc3] at hf
        refine t_jF (rfl : mfetch 147 27 = some (27, .ifCond .eq 17, 3, 0, 0, 0)) (k_eq' hc3) ?_
        refine mEnds.stp 7 (pc' := 38) (l' := [some (.ref 10), some (.int x1), some (.int x2)]) (st' := [.int (nI 0), .int x2, .int ((nI 24) + x1), .int (nI 1), .ref 10]) (fun _ => rfl) ?_
        obtain ⟨v4, hv4, hf⟩ := ob hf
        refine t_cv (as := [.int (nI 1), .int ((nI 24) + x1), .int x2, .int (nI 0)]) (st := []) (rfl : mfetch 147 38 = some (38, .invokevirtual 185, 3, 142, 0, 0)) rfl rfl rfl rfl rfl ((ok_M_puts hv4).deep 1) ?_
        refine mEnds.stp 1 (pc' := 46) (l' := [some (.ref 10), some (.int x1), some (.int x2)]) (st' := [.int v4.1]) (fun _ => rfl) ?_
        exact mEnds.rti (Option.some.inj hf) (fun _ => rfl)
def M_mark (x1 : Int32) (x2 : Int32) (s : sg) : Option (Int32 × sg) :=
  (M_marks x1 x2 s).bind fun v1 =>
  some (v1.1, v1.2)
set_option maxRecDepth 100000 in
theorem ok_M_mark {x1 : Int32} {x2 : Int32} {s : sg} {rv : (Int32 × sg)} (hf : M_mark x1 x2 s = some rv) : mEnds [] 3 148 (0, [some (.ref 10), some (.int x1), some (.int x2)], [], hp shM s, 0, 0) (some (.int rv.1), hp shM rv.2, 0, 0) := by
  unfold M_mark at hf
  refine mEnds.stp 3 (pc' := 3) (l' := [some (.ref 10), some (.int x1), some (.int x2)]) (st' := [.int x2, .int x1, .ref 10]) (fun _ => rfl) ?_
  obtain ⟨v1, hv1, hf⟩ := ob hf
  refine t_cv (as := [.int x1, .int x2]) (st := []) (rfl : mfetch 148 3 = some (3, .invokevirtual 195, 3, 147, 0, 0)) rfl rfl rfl rfl rfl (ok_M_marks hv1) ?_
  exact mEnds.rti (Option.some.inj hf) (fun _ => rfl)
def M_lag_26 (x1 : Int32) (x2 : Int32) (y0 : Int32) (s : sg) : Option (Int32 × sg) :=
  (M_puts y0 ((nI 36) + x1) x2 (nI 2) s).bind fun v1 =>
  some (v1.1, v1.2)
set_option maxRecDepth 100000 in
theorem ok_M_lag_26 {x1 : Int32} {x2 : Int32} {y0 : Int32} {s : sg} {rv : (Int32 × sg)} (hf : M_lag_26 x1 x2 y0 s = some rv) : mEnds [] 2 149 (26, [none, some (.int x1), some (.int x2)], [.int y0, .ref 10], hp shM s, 0, 0) (some (.int rv.1), hp shM rv.2, 0, 0) := by
  unfold M_lag_26 at hf
  refine mEnds.stp 5 (pc' := 32) (l' := [none, some (.int x1), some (.int x2)]) (st' := [.int (nI 2), .int x2, .int ((nI 36) + x1), .int y0, .ref 10]) (fun _ => rfl) ?_
  obtain ⟨v1, hv1, hf⟩ := ob hf
  refine t_cv (as := [.int y0, .int ((nI 36) + x1), .int x2, .int (nI 2)]) (st := []) (rfl : mfetch 149 32 = some (32, .invokevirtual 185, 3, 142, 0, 0)) rfl rfl rfl rfl rfl ((ok_M_puts hv1).deep 1) ?_
  exact mEnds.rti (Option.some.inj hf) (fun _ => rfl)
def M_lag_25 (x1 : Int32) (x2 : Int32) (s : sg) : Option (Int32 × sg) :=
  M_lag_26 x1 x2 (nI 0) s
set_option maxRecDepth 100000 in
theorem ok_M_lag_25 {x1 : Int32} {x2 : Int32} {s : sg} {rv : (Int32 × sg)} (hf : M_lag_25 x1 x2 s = some rv) : mEnds [] 2 149 (25, [none, some (.int x1), some (.int x2)], [.ref 10], hp shM s, 0, 0) (some (.int rv.1), hp shM rv.2, 0, 0) := by
  unfold M_lag_25 at hf
  refine mEnds.stp 1 (pc' := 26) (l' := [none, some (.int x1), some (.int x2)]) (st' := [.int (nI 0), .ref 10]) (fun _ => rfl) ?_
  refine mEnds.cut (l := [none, some (.int x1), some (.int x2)]) ⟨rfl, ⟨rfl, trivial⟩⟩ ?_
  exact ok_M_lag_26 hf
def M_lag (x1 : Int32) (x2 : Int32) (s : sg) : Option (Int32 × sg) :=
  (M_isWall x1 s).bind fun v1 =>
  if v1 = 0 then
    M_lag_25 x1 x2 s
  else
    (M_in x2.toInt64 (0 : Int64) (9 : Int64) s).bind fun v2 =>
    if v2 = 0 then
      M_lag_25 x1 x2 s
    else
      M_lag_26 x1 x2 (nI 1) s
set_option maxRecDepth 100000 in
theorem ok_M_lag {x1 : Int32} {x2 : Int32} {s : sg} {rv : (Int32 × sg)} (hf : M_lag x1 x2 s = some rv) : mEnds [] 2 149 (0, [some (.ref 10), some (.int x1), some (.int x2)], [], hp shM s, 0, 0) (some (.int rv.1), hp shM rv.2, 0, 0) := by
  unfold M_lag at hf
  refine mEnds.stp 3 (pc' := 3) (l' := [some (.ref 10), some (.int x1), some (.int x2)]) (st' := [.int x1, .ref 10, .ref 10]) (fun _ => rfl) ?_
  obtain ⟨v1, hv1, hf⟩ := ob hf
  refine t_cv (as := [.int x1]) (st := [.ref 10]) (rfl : mfetch 149 3 = some (3, .invokevirtual 176, 3, 127, 0, 0)) rfl rfl rfl rfl rfl (ok_M_isWall hv1) ?_
  by_cases hc1 : v1 = 0
  · rw [if_pos hc1] at hf
    refine t_jT (t := 25) (rfl : mfetch 149 6 = some (6, .ifCond .eq 19, 3, 0, 0, 0)) rfl (k_eq hc1) ?_
    refine mEnds.cut (l := [none, some (.int x1), some (.int x2)]) ⟨rfl, ⟨rfl, trivial⟩⟩ ?_
    exact ok_M_lag_25 hf
  · rw [if_neg hc1] at hf
    refine t_jF (rfl : mfetch 149 6 = some (6, .ifCond .eq 19, 3, 0, 0, 0)) (k_eq' hc1) ?_
    refine mEnds.stp 4 (pc' := 15) (l' := [some (.ref 10), some (.int x1), some (.int x2)]) (st' := [.long (9 : Int64), .long (0 : Int64), .long x2.toInt64, .ref 10]) (fun _ => rfl) ?_
    obtain ⟨v2, hv2, hf⟩ := ob hf
    refine t_cs (as := [.long x2.toInt64, .long (0 : Int64), .long (9 : Int64)]) (st := [.ref 10]) (Or.inl rfl) (rfl : mfetch 149 15 = some (15, .invokestatic 49, 3, 111, 0, 0)) rfl rfl rfl ((ok_M_in hv2).deep 1) ?_
    by_cases hc2 : v2 = 0
    · rw [if_pos hc2] at hf
      refine t_jT (t := 25) (rfl : mfetch 149 18 = some (18, .ifCond .eq 7, 3, 0, 0, 0)) rfl (k_eq hc2) ?_
      refine mEnds.cut (l := [none, some (.int x1), some (.int x2)]) ⟨rfl, ⟨rfl, trivial⟩⟩ ?_
      exact ok_M_lag_25 hf
    · rw [if_neg hc2] at hf
      refine t_jF (rfl : mfetch 149 18 = some (18, .ifCond .eq 7, 3, 0, 0, 0)) (k_eq' hc2) ?_
      refine mEnds.stp 2 (pc' := 26) (l' := [some (.ref 10), some (.int x1), some (.int x2)]) (st' := [.int (nI 1), .ref 10]) (fun _ => rfl) ?_
      refine mEnds.cut (l := [none, some (.int x1), some (.int x2)]) ⟨rfl, ⟨rfl, trivial⟩⟩ ?_
      exact ok_M_lag_26 hf
def M_sky_30 (x1 : Int32) (x2 : Int32) (y0 : Int32) (s : sg) : Option (Int32 × sg) :=
  (M_puts y0 ((nI 41) + x1) x2 (nI 10) s).bind fun v1 =>
  some (v1.1, v1.2)
set_option maxRecDepth 100000 in
theorem ok_M_sky_30 {x1 : Int32} {x2 : Int32} {y0 : Int32} {s : sg} {rv : (Int32 × sg)} (hf : M_sky_30 x1 x2 y0 s = some rv) : mEnds [] 1 150 (30, [none, some (.int x1), some (.int x2)], [.int y0, .ref 10], hp shM s, 0, 0) (some (.int rv.1), hp shM rv.2, 0, 0) := by
  unfold M_sky_30 at hf
  refine mEnds.stp 5 (pc' := 37) (l' := [none, some (.int x1), some (.int x2)]) (st' := [.int (nI 10), .int x2, .int ((nI 41) + x1), .int y0, .ref 10]) (fun _ => rfl) ?_
  obtain ⟨v1, hv1, hf⟩ := ob hf
  refine t_cv (as := [.int y0, .int ((nI 41) + x1), .int x2, .int (nI 10)]) (st := []) (rfl : mfetch 150 37 = some (37, .invokevirtual 185, 3, 142, 0, 0)) rfl rfl rfl rfl rfl (ok_M_puts hv1) ?_
  exact mEnds.rti (Option.some.inj hf) (fun _ => rfl)
def M_sky_29 (x1 : Int32) (x2 : Int32) (s : sg) : Option (Int32 × sg) :=
  M_sky_30 x1 x2 (nI 0) s
set_option maxRecDepth 100000 in
theorem ok_M_sky_29 {x1 : Int32} {x2 : Int32} {s : sg} {rv : (Int32 × sg)} (hf : M_sky_29 x1 x2 s = some rv) : mEnds [] 1 150 (29, [none, some (.int x1), some (.int x2)], [.ref 10], hp shM s, 0, 0) (some (.int rv.1), hp shM rv.2, 0, 0) := by
  unfold M_sky_29 at hf
  refine mEnds.stp 1 (pc' := 30) (l' := [none, some (.int x1), some (.int x2)]) (st' := [.int (nI 0), .ref 10]) (fun _ => rfl) ?_
  refine mEnds.cut (l := [none, some (.int x1), some (.int x2)]) ⟨rfl, ⟨rfl, trivial⟩⟩ ?_
  exact ok_M_sky_30 hf
def M_sky (x1 : Int32) (x2 : Int32) (s : sg) : Option (Int32 × sg) :=
  (M_in x1.toInt64 (0 : Int64) (7 : Int64) s).bind fun v1 =>
  if v1 = 0 then
    M_sky_29 x1 x2 s
  else
    (M_in x2.toInt64 (0 : Int64) (99 : Int64) s).bind fun v2 =>
    if v2 = 0 then
      M_sky_29 x1 x2 s
    else
      M_sky_30 x1 x2 (nI 1) s
set_option maxRecDepth 100000 in
theorem ok_M_sky {x1 : Int32} {x2 : Int32} {s : sg} {rv : (Int32 × sg)} (hf : M_sky x1 x2 s = some rv) : mEnds [] 1 150 (0, [some (.ref 10), some (.int x1), some (.int x2)], [], hp shM s, 0, 0) (some (.int rv.1), hp shM rv.2, 0, 0) := by
  unfold M_sky at hf
  refine mEnds.stp 5 (pc' := 7) (l' := [some (.ref 10), some (.int x1), some (.int x2)]) (st' := [.long (7 : Int64), .long (0 : Int64), .long x1.toInt64, .ref 10]) (fun _ => rfl) ?_
  obtain ⟨v1, hv1, hf⟩ := ob hf
  refine t_cs (as := [.long x1.toInt64, .long (0 : Int64), .long (7 : Int64)]) (st := [.ref 10]) (Or.inl rfl) (rfl : mfetch 150 7 = some (7, .invokestatic 49, 3, 111, 0, 0)) rfl rfl rfl (ok_M_in hv1) ?_
  by_cases hc1 : v1 = 0
  · rw [if_pos hc1] at hf
    refine t_jT (t := 29) (rfl : mfetch 150 10 = some (10, .ifCond .eq 19, 3, 0, 0, 0)) rfl (k_eq hc1) ?_
    refine mEnds.cut (l := [none, some (.int x1), some (.int x2)]) ⟨rfl, ⟨rfl, trivial⟩⟩ ?_
    exact ok_M_sky_29 hf
  · rw [if_neg hc1] at hf
    refine t_jF (rfl : mfetch 150 10 = some (10, .ifCond .eq 19, 3, 0, 0, 0)) (k_eq' hc1) ?_
    refine mEnds.stp 4 (pc' := 19) (l' := [some (.ref 10), some (.int x1), some (.int x2)]) (st' := [.long (99 : Int64), .long (0 : Int64), .long x2.toInt64, .ref 10]) (fun _ => rfl) ?_
    obtain ⟨v2, hv2, hf⟩ := ob hf
    refine t_cs (as := [.long x2.toInt64, .long (0 : Int64), .long (99 : Int64)]) (st := [.ref 10]) (Or.inl rfl) (rfl : mfetch 150 19 = some (19, .invokestatic 49, 3, 111, 0, 0)) rfl rfl rfl (ok_M_in hv2) ?_
    by_cases hc2 : v2 = 0
    · rw [if_pos hc2] at hf
      refine t_jT (t := 29) (rfl : mfetch 150 22 = some (22, .ifCond .eq 7, 3, 0, 0, 0)) rfl (k_eq hc2) ?_
      refine mEnds.cut (l := [none, some (.int x1), some (.int x2)]) ⟨rfl, ⟨rfl, trivial⟩⟩ ?_
      exact ok_M_sky_29 hf
    · rw [if_neg hc2] at hf
      refine t_jF (rfl : mfetch 150 22 = some (22, .ifCond .eq 7, 3, 0, 0, 0)) (k_eq' hc2) ?_
      refine mEnds.stp 2 (pc' := 30) (l' := [some (.ref 10), some (.int x1), some (.int x2)]) (st' := [.int (nI 1), .ref 10]) (fun _ => rfl) ?_
      refine mEnds.cut (l := [none, some (.int x1), some (.int x2)]) ⟨rfl, ⟨rfl, trivial⟩⟩ ?_
      exact ok_M_sky_30 hf
def M_hours_42 (x1 : Int32) (x2 : Int32) : Nat → Int32 → sg → Option (Int32 × sg)
  | 0, _, _ => none
  | fu + 1, x3, s =>
  if x3 < x1 then
    (M_goesOn (nI 0) s).bind fun s1 =>
    M_hours_42 x1 x2 fu (x3 + (nI 1)) s1
  else
    (midx (nI 50) 312).bind fun j1 =>
    some ((s 11 j1) - x2, s)
set_option maxRecDepth 100000 in
theorem ok_M_hours_42 {x1 : Int32} {x2 : Int32} : ∀ (fu : Nat) (x3 : Int32) (s : sg) (rv : (Int32 × sg)), M_hours_42 x1 x2 fu x3 s = some rv → mEnds [] 4 151 (42, [some (.ref 10), some (.int x1), some (.int x2), some (.int x3)], [], hp shM s, 0, 0) (some (.int rv.1), hp shM rv.2, 0, 0)
  | 0, _, _, _, hf => by cases hf
  | fu + 1, x3, s, rv, hf => by
    rw [M_hours_42] at hf
    refine mEnds.stp 2 (pc' := 44) (l' := [some (.ref 10), some (.int x1), some (.int x2), some (.int x3)]) (st' := [.int x1, .int x3]) (fun _ => rfl) ?_
    by_cases hc1 : x3 < x1
    · rw [if_pos hc1] at hf
      refine t_cF (rfl : mfetch 151 44 = some (44, .if_icmp .ge 14, 3, 0, 0, 0)) (k_ge' hc1) ?_
      refine mEnds.stp 2 (pc' := 49) (l' := [some (.ref 10), some (.int x1), some (.int x2), some (.int x3)]) (st' := [.int (nI 0), .ref 10]) (fun _ => rfl) ?_
      obtain ⟨s1, hs1, hf⟩ := ob hf
      refine t_cv (as := [.int (nI 0)]) (st := []) (rfl : mfetch 151 49 = some (49, .invokevirtual 198, 3, 134, 0, 0)) rfl rfl rfl rfl rfl (ok_M_goesOn hs1) ?_
      refine mEnds.stp 2 (pc' := 42) (l' := [some (.ref 10), some (.int x1), some (.int x2), some (.int (x3 + (nI 1)))]) (st' := []) (fun _ => rfl) ?_
      refine mEnds.cut (l := [some (.ref 10), some (.int x1), some (.int x2), some (.int (x3 + (nI 1)))]) ⟨rfl, ⟨rfl, ⟨rfl, ⟨rfl, trivial⟩⟩⟩⟩ ?_
      exact ok_M_hours_42 fu (x3 + (nI 1)) s1 _ hf
    · rw [if_neg hc1] at hf
      refine t_cT (t := 58) (rfl : mfetch 151 44 = some (44, .if_icmp .ge 14, 3, 0, 0, 0)) rfl (k_ge hc1) ?_
      refine mEnds.stp 1 (pc' := 59) (l' := [some (.ref 10), some (.int x1), some (.int x2), some (.int x3)]) (st' := [.ref 10]) (fun _ => rfl) ?_
      refine t_gr (rfl : mfetch 151 59 = some (59, .getfield 7, 3, 5, 0, 0)) rfl rfl ?_
      refine mEnds.stp 1 (pc' := 64) (l' := [some (.ref 10), some (.int x1), some (.int x2), some (.int x3)]) (st' := [.int (nI 50), .ref 11]) (fun _ => rfl) ?_
      obtain ⟨j1, hj1, hf⟩ := ob hf
      refine t_ia (rfl : mfetch 151 64 = some (64, .iaload, 1, 0, 0, 0)) rfl rfl hj1 ?_
      refine mEnds.stp 2 (pc' := 67) (l' := [some (.ref 10), some (.int x1), some (.int x2), some (.int x3)]) (st' := [.int ((s 11 j1) - x2)]) (fun _ => rfl) ?_
      exact mEnds.rti (Option.some.inj hf) (fun _ => rfl)
def M_hours (x1 : Int32) (s : sg) : Option (Int32 × sg) :=
  (M_in x1.toInt64 (0 : Int64) (48 : Int64) s).bind fun v1 =>
  if v1 = 0 then
    some ((-1), s)
  else
    (midx (nI 49) 312).bind fun j1 =>
    if nI 999 < (s 11 j1) + x1 then
      some ((-3), s)
    else
      (midx (nI 50) 312).bind fun j2 =>
      M_hours_42 x1 (s 11 j2) FU (nI 0) s
set_option maxRecDepth 100000 in
theorem ok_M_hours {x1 : Int32} {s : sg} {rv : (Int32 × sg)} (hf : M_hours x1 s = some rv) : mEnds [] 4 151 (0, [some (.ref 10), some (.int x1), none, none], [], hp shM s, 0, 0) (some (.int rv.1), hp shM rv.2, 0, 0) := by
  unfold M_hours at hf
  refine mEnds.stp 4 (pc' := 6) (l' := [some (.ref 10), some (.int x1), none, none]) (st' := [.long (48 : Int64), .long (0 : Int64), .long x1.toInt64]) (fun _ => rfl) ?_
  obtain ⟨v1, hv1, hf⟩ := ob hf
  refine t_cs (as := [.long x1.toInt64, .long (0 : Int64), .long (48 : Int64)]) (st := []) (Or.inl rfl) (rfl : mfetch 151 6 = some (6, .invokestatic 49, 3, 111, 0, 0)) rfl rfl rfl ((ok_M_in hv1).deep 3) ?_
  by_cases hc1 : v1 = 0
  · rw [if_pos hc1] at hf
    refine t_jF (rfl : mfetch 151 9 = some (9, .ifCond .ne 5, 3, 0, 0, 0)) (k_ne' hc1) ?_
    refine mEnds.stp 1 (pc' := 13) (l' := [some (.ref 10), some (.int x1), none, none]) (st' := [.int (-1)]) (fun _ => rfl) ?_
    exact mEnds.rti (Option.some.inj hf) (fun _ => rfl)
  · rw [if_neg hc1] at hf
    refine t_jT (t := 14) (rfl : mfetch 151 9 = some (9, .ifCond .ne 5, 3, 0, 0, 0)) rfl (k_ne hc1) ?_
    refine mEnds.stp 1 (pc' := 15) (l' := [some (.ref 10), some (.int x1), none, none]) (st' := [.ref 10]) (fun _ => rfl) ?_
    refine t_gr (rfl : mfetch 151 15 = some (15, .getfield 7, 3, 5, 0, 0)) rfl rfl ?_
    refine mEnds.stp 1 (pc' := 20) (l' := [some (.ref 10), some (.int x1), none, none]) (st' := [.int (nI 49), .ref 11]) (fun _ => rfl) ?_
    obtain ⟨j1, hj1, hf⟩ := ob hf
    refine t_ia (rfl : mfetch 151 20 = some (20, .iaload, 1, 0, 0, 0)) rfl rfl hj1 ?_
    refine mEnds.stp 3 (pc' := 26) (l' := [some (.ref 10), some (.int x1), none, none]) (st' := [.int (nI 999), .int ((s 11 j1) + x1)]) (fun _ => rfl) ?_
    by_cases hc2 : nI 999 < (s 11 j1) + x1
    · rw [if_pos hc2] at hf
      refine t_cF (rfl : mfetch 151 26 = some (26, .if_icmp .le 6, 3, 0, 0, 0)) (k_le' hc2) ?_
      refine mEnds.stp 1 (pc' := 31) (l' := [some (.ref 10), some (.int x1), none, none]) (st' := [.int (-3)]) (fun _ => rfl) ?_
      exact mEnds.rti (Option.some.inj hf) (fun _ => rfl)
    · rw [if_neg hc2] at hf
      refine t_cT (t := 32) (rfl : mfetch 151 26 = some (26, .if_icmp .le 6, 3, 0, 0, 0)) rfl (k_le hc2) ?_
      refine mEnds.stp 1 (pc' := 33) (l' := [some (.ref 10), some (.int x1), none, none]) (st' := [.ref 10]) (fun _ => rfl) ?_
      refine t_gr (rfl : mfetch 151 33 = some (33, .getfield 7, 3, 5, 0, 0)) rfl rfl ?_
      refine mEnds.stp 1 (pc' := 38) (l' := [some (.ref 10), some (.int x1), none, none]) (st' := [.int (nI 50), .ref 11]) (fun _ => rfl) ?_
      obtain ⟨j2, hj2, hf⟩ := ob hf
      refine t_ia (rfl : mfetch 151 38 = some (38, .iaload, 1, 0, 0, 0)) rfl rfl hj2 ?_
      refine mEnds.stp 3 (pc' := 42) (l' := [some (.ref 10), some (.int x1), some (.int (s 11 j2)), some (.int (nI 0))]) (st' := []) (fun _ => rfl) ?_
      refine mEnds.cut (l := [some (.ref 10), some (.int x1), some (.int (s 11 j2)), some (.int (nI 0))]) ⟨rfl, ⟨rfl, ⟨rfl, ⟨rfl, trivial⟩⟩⟩⟩ ?_
      exact ok_M_hours_42 FU (nI 0) s _ hf
def M_copies_2 (x1 : Int32) (x2 : Int32) : Nat → Int32 → sg → Option sg
  | 0, _, _ => none
  | fu + 1, x3, s =>
  if x3 < nI 52 then
    (midx (x1 + x3) 312).bind fun j1 =>
    (midx (x2 + x3) 312).bind fun j2 =>
    (some (up s 11 j2 (s 11 j1))).bind fun s1 =>
    M_copies_2 x1 x2 fu (x3 + (nI 1)) s1
  else
    some s
set_option maxRecDepth 100000 in
theorem ok_M_copies_2 {x1 : Int32} {x2 : Int32} : ∀ (fu : Nat) (x3 : Int32) (s : sg) (rv : sg), M_copies_2 x1 x2 fu x3 s = some rv → mEnds [] 0 152 (2, [some (.ref 10), some (.int x1), some (.int x2), some (.int x3)], [], hp shM s, 0, 0) (none, hp shM rv, 0, 0)
  | 0, _, _, _, hf => by cases hf
  | fu + 1, x3, s, rv, hf => by
    rw [M_copies_2] at hf
    refine mEnds.stp 2 (pc' := 5) (l' := [some (.ref 10), some (.int x1), some (.int x2), some (.int x3)]) (st' := [.int (nI 52), .int x3]) (fun _ => rfl) ?_
    by_cases hc1 : x3 < nI 52
    · rw [if_pos hc1] at hf
      refine t_cF (rfl : mfetch 152 5 = some (5, .if_icmp .ge 25, 3, 0, 0, 0)) (k_ge' hc1) ?_
      refine mEnds.stp 1 (pc' := 9) (l' := [some (.ref 10), some (.int x1), some (.int x2), some (.int x3)]) (st' := [.ref 10]) (fun _ => rfl) ?_
      refine t_gr (rfl : mfetch 152 9 = some (9, .getfield 7, 3, 5, 0, 0)) rfl rfl ?_
      refine mEnds.stp 4 (pc' := 16) (l' := [some (.ref 10), some (.int x1), some (.int x2), some (.int x3)]) (st' := [.ref 10, .int (x2 + x3), .ref 11]) (fun _ => rfl) ?_
      refine t_gr (rfl : mfetch 152 16 = some (16, .getfield 7, 3, 5, 0, 0)) rfl rfl ?_
      refine mEnds.stp 3 (pc' := 22) (l' := [some (.ref 10), some (.int x1), some (.int x2), some (.int x3)]) (st' := [.int (x1 + x3), .ref 11, .int (x2 + x3), .ref 11]) (fun _ => rfl) ?_
      obtain ⟨j1, hj1, hf⟩ := ob hf
      refine t_ia (rfl : mfetch 152 22 = some (22, .iaload, 1, 0, 0, 0)) rfl rfl hj1 ?_
      obtain ⟨j2, hj2, hf⟩ := ob hf
      obtain ⟨s1, hs1, hf⟩ := ob hf
      refine t_is (rfl : mfetch 152 23 = some (23, .iastore, 1, 0, 0, 0)) rfl rfl hj2 hs1 ?_
      refine mEnds.stp 2 (pc' := 2) (l' := [some (.ref 10), some (.int x1), some (.int x2), some (.int (x3 + (nI 1)))]) (st' := []) (fun _ => rfl) ?_
      refine mEnds.cut (l := [some (.ref 10), some (.int x1), some (.int x2), some (.int (x3 + (nI 1)))]) ⟨rfl, ⟨rfl, ⟨rfl, ⟨rfl, trivial⟩⟩⟩⟩ ?_
      exact ok_M_copies_2 fu (x3 + (nI 1)) s1 _ hf
    · rw [if_neg hc1] at hf
      refine t_cT (t := 30) (rfl : mfetch 152 5 = some (5, .if_icmp .ge 25, 3, 0, 0, 0)) rfl (k_ge hc1) ?_
      cases hf; exact mEnds.rt (fun _ => rfl)
def M_copies (x1 : Int32) (x2 : Int32) (s : sg) : Option sg :=
  M_copies_2 x1 x2 FU (nI 0) s
set_option maxRecDepth 100000 in
theorem ok_M_copies {x1 : Int32} {x2 : Int32} {s : sg} {rv : sg} (hf : M_copies x1 x2 s = some rv) : mEnds [] 0 152 (0, [some (.ref 10), some (.int x1), some (.int x2), none], [], hp shM s, 0, 0) (none, hp shM rv, 0, 0) := by
  unfold M_copies at hf
  refine mEnds.stp 2 (pc' := 2) (l' := [some (.ref 10), some (.int x1), some (.int x2), some (.int (nI 0))]) (st' := []) (fun _ => rfl) ?_
  refine mEnds.cut (l := [some (.ref 10), some (.int x1), some (.int x2), some (.int (nI 0))]) ⟨rfl, ⟨rfl, ⟨rfl, ⟨rfl, trivial⟩⟩⟩⟩ ?_
  exact ok_M_copies_2 FU (nI 0) s _ hf
def M_hoursGo_89 (k27 : Int32 → sg → Option (Int32 × sg)) (x2 : Int32) (x3 : Int32) (y0 : Int32) (s : sg) : Option (Int32 × sg) :=
  (some (up s 10 20 y0)).bind fun s1 =>
  k27 (x3 + (nI 1)) s1
set_option maxRecDepth 100000 in
theorem ok_M_hoursGo_89 {k27 : Int32 → sg → Option (Int32 × sg)} {x2 : Int32} {x3 : Int32} {y0 : Int32} {s : sg} {rv : (Int32 × sg)} (hk27 : ∀ (x3 : Int32) (s : sg) (rv : (Int32 × sg)), k27 x3 s = some rv → mEnds [] 4 153 (27, [some (.ref 10), none, some (.int x2), some (.int x3), none], [], hp shM s, 0, 0) (some (.int rv.1), hp shM rv.2, 0, 0)) (hf : M_hoursGo_89 k27 x2 x3 y0 s = some rv) : mEnds [] 4 153 (89, [some (.ref 10), none, some (.int x2), some (.int x3), none], [.int y0, .ref 10], hp shM s, 0, 0) (some (.int rv.1), hp shM rv.2, 0, 0) := by
  unfold M_hoursGo_89 at hf
  obtain ⟨s1, hs1, hf⟩ := ob hf
  refine t_pi (rfl : mfetch 153 89 = some (89, .putfield 210, 3, 5, 20, 0)) rfl rfl rfl rfl hs1 ?_
  refine mEnds.stp 2 (pc' := 27) (l' := [some (.ref 10), none, some (.int x2), some (.int (x3 + (nI 1))), none]) (st' := []) (fun _ => rfl) ?_
  refine mEnds.cut (l := [some (.ref 10), none, some (.int x2), some (.int (x3 + (nI 1))), none]) ⟨rfl, ⟨rfl, ⟨rfl, trivial⟩⟩⟩ ?_
  exact hk27 (x3 + (nI 1)) s1 _ hf
def M_hoursGo_67 (k27 : Int32 → sg → Option (Int32 × sg)) (x2 : Int32) (x3 : Int32) (x4 : Int32) (y0 : Int32) (s : sg) : Option (Int32 × sg) :=
  (some (up s 10 19 y0)).bind fun s1 =>
  if x4 < s1 10 20 then
    M_hoursGo_89 k27 x2 x3 x4 s1
  else
    M_hoursGo_89 k27 x2 x3 (s1 10 20) s1
set_option maxRecDepth 100000 in
theorem ok_M_hoursGo_67 {k27 : Int32 → sg → Option (Int32 × sg)} {x2 : Int32} {x3 : Int32} {x4 : Int32} {y0 : Int32} {s : sg} {rv : (Int32 × sg)} (hk27 : ∀ (x3 : Int32) (s : sg) (rv : (Int32 × sg)), k27 x3 s = some rv → mEnds [] 4 153 (27, [some (.ref 10), none, some (.int x2), some (.int x3), none], [], hp shM s, 0, 0) (some (.int rv.1), hp shM rv.2, 0, 0)) (hf : M_hoursGo_67 k27 x2 x3 x4 y0 s = some rv) : mEnds [] 4 153 (67, [some (.ref 10), none, some (.int x2), some (.int x3), some (.int x4)], [.int y0, .ref 10], hp shM s, 0, 0) (some (.int rv.1), hp shM rv.2, 0, 0) := by
  unfold M_hoursGo_67 at hf
  obtain ⟨s1, hs1, hf⟩ := ob hf
  refine t_pi (rfl : mfetch 153 67 = some (67, .putfield 207, 3, 5, 19, 0)) rfl rfl rfl rfl hs1 ?_
  refine mEnds.stp 3 (pc' := 74) (l' := [some (.ref 10), none, some (.int x2), some (.int x3), some (.int x4)]) (st' := [.ref 10, .int x4, .ref 10]) (fun _ => rfl) ?_
  refine t_gi (rfl : mfetch 153 74 = some (74, .getfield 210, 3, 5, 20, 0)) rfl rfl ?_
  by_cases hc1 : x4 < s1 10 20
  · rw [if_pos hc1] at hf
    refine t_cF (rfl : mfetch 153 77 = some (77, .if_icmp .ge 8, 3, 0, 0, 0)) (k_ge' hc1) ?_
    refine mEnds.stp 2 (pc' := 89) (l' := [some (.ref 10), none, some (.int x2), some (.int x3), some (.int x4)]) (st' := [.int x4, .ref 10]) (fun _ => rfl) ?_
    refine mEnds.cut (l := [some (.ref 10), none, some (.int x2), some (.int x3), none]) ⟨rfl, ⟨rfl, ⟨rfl, trivial⟩⟩⟩ ?_
    exact ok_M_hoursGo_89 hk27 hf
  · rw [if_neg hc1] at hf
    refine t_cT (t := 85) (rfl : mfetch 153 77 = some (77, .if_icmp .ge 8, 3, 0, 0, 0)) rfl (k_ge hc1) ?_
    refine mEnds.stp 1 (pc' := 86) (l' := [some (.ref 10), none, some (.int x2), some (.int x3), some (.int x4)]) (st' := [.ref 10, .ref 10]) (fun _ => rfl) ?_
    refine t_gi (rfl : mfetch 153 86 = some (86, .getfield 210, 3, 5, 20, 0)) rfl rfl ?_
    refine mEnds.cut (l := [some (.ref 10), none, some (.int x2), some (.int x3), none]) ⟨rfl, ⟨rfl, ⟨rfl, trivial⟩⟩⟩ ?_
    exact ok_M_hoursGo_89 hk27 hf
def M_hoursGo_27 (x2 : Int32) : Nat → Int32 → sg → Option (Int32 × sg)
  | 0, _, _ => none
  | fu + 1, x3, s =>
  if x3 < x2 then
    (M_goesOn (nI 208) s).bind fun s1 =>
    (M_coldestOn (nI 208) s1).bind fun v2 =>
    if v2 < s1 10 19 then
      M_hoursGo_67 (M_hoursGo_27 x2 fu) x2 x3 v2 v2 s1
    else
      M_hoursGo_67 (M_hoursGo_27 x2 fu) x2 x3 v2 (s1 10 19) s1
  else
    (midx (nI 258) 312).bind fun j1 =>
    (midx (nI 50) 312).bind fun j2 =>
    some ((s 11 j1) - (s 11 j2), s)
set_option maxRecDepth 100000 in
theorem ok_M_hoursGo_27 {x2 : Int32} : ∀ (fu : Nat) (x3 : Int32) (s : sg) (rv : (Int32 × sg)), M_hoursGo_27 x2 fu x3 s = some rv → mEnds [] 4 153 (27, [some (.ref 10), none, some (.int x2), some (.int x3), none], [], hp shM s, 0, 0) (some (.int rv.1), hp shM rv.2, 0, 0)
  | 0, _, _, _, hf => by cases hf
  | fu + 1, x3, s, rv, hf => by
    rw [M_hoursGo_27] at hf
    refine mEnds.stp 2 (pc' := 29) (l' := [some (.ref 10), none, some (.int x2), some (.int x3), none]) (st' := [.int x2, .int x3]) (fun _ => rfl) ?_
    by_cases hc1 : x3 < x2
    · rw [if_pos hc1] at hf
      refine t_cF (rfl : mfetch 153 29 = some (29, .if_icmp .ge 69, 3, 0, 0, 0)) (k_ge' hc1) ?_
      refine mEnds.stp 2 (pc' := 36) (l' := [some (.ref 10), none, some (.int x2), some (.int x3), none]) (st' := [.int (nI 208), .ref 10]) (fun _ => rfl) ?_
      obtain ⟨s1, hs1, hf⟩ := ob hf
      refine t_cv (as := [.int (nI 208)]) (st := []) (rfl : mfetch 153 36 = some (36, .invokevirtual 198, 3, 134, 0, 0)) rfl rfl rfl rfl rfl (ok_M_goesOn hs1) ?_
      refine mEnds.stp 2 (pc' := 43) (l' := [some (.ref 10), none, some (.int x2), some (.int x3), none]) (st' := [.int (nI 208), .ref 10]) (fun _ => rfl) ?_
      obtain ⟨v2, hv2, hf⟩ := ob hf
      refine t_cv (as := [.int (nI 208)]) (st := []) (rfl : mfetch 153 43 = some (43, .invokevirtual 204, 3, 137, 0, 0)) rfl rfl rfl rfl rfl ((ok_M_coldestOn hv2).deep 3) ?_
      refine mEnds.stp 4 (pc' := 52) (l' := [some (.ref 10), none, some (.int x2), some (.int x3), some (.int v2)]) (st' := [.ref 10, .int v2, .ref 10]) (fun _ => rfl) ?_
      refine t_gi (rfl : mfetch 153 52 = some (52, .getfield 207, 3, 5, 19, 0)) rfl rfl ?_
      by_cases hc2 : v2 < s1 10 19
      · rw [if_pos hc2] at hf
        refine t_cF (rfl : mfetch 153 55 = some (55, .if_icmp .ge 8, 3, 0, 0, 0)) (k_ge' hc2) ?_
        refine mEnds.stp 2 (pc' := 67) (l' := [some (.ref 10), none, some (.int x2), some (.int x3), some (.int v2)]) (st' := [.int v2, .ref 10]) (fun _ => rfl) ?_
        refine mEnds.cut (l := [some (.ref 10), none, some (.int x2), some (.int x3), some (.int v2)]) ⟨rfl, ⟨rfl, ⟨rfl, ⟨rfl, trivial⟩⟩⟩⟩ ?_
        exact ok_M_hoursGo_67 (ok_M_hoursGo_27 fu) hf
      · rw [if_neg hc2] at hf
        refine t_cT (t := 63) (rfl : mfetch 153 55 = some (55, .if_icmp .ge 8, 3, 0, 0, 0)) rfl (k_ge hc2) ?_
        refine mEnds.stp 1 (pc' := 64) (l' := [some (.ref 10), none, some (.int x2), some (.int x3), some (.int v2)]) (st' := [.ref 10, .ref 10]) (fun _ => rfl) ?_
        refine t_gi (rfl : mfetch 153 64 = some (64, .getfield 207, 3, 5, 19, 0)) rfl rfl ?_
        refine mEnds.cut (l := [some (.ref 10), none, some (.int x2), some (.int x3), some (.int v2)]) ⟨rfl, ⟨rfl, ⟨rfl, ⟨rfl, trivial⟩⟩⟩⟩ ?_
        exact ok_M_hoursGo_67 (ok_M_hoursGo_27 fu) hf
    · rw [if_neg hc1] at hf
      refine t_cT (t := 98) (rfl : mfetch 153 29 = some (29, .if_icmp .ge 69, 3, 0, 0, 0)) rfl (k_ge hc1) ?_
      refine mEnds.stp 1 (pc' := 99) (l' := [some (.ref 10), none, some (.int x2), some (.int x3), none]) (st' := [.ref 10]) (fun _ => rfl) ?_
      refine t_gr (rfl : mfetch 153 99 = some (99, .getfield 7, 3, 5, 0, 0)) rfl rfl ?_
      refine mEnds.stp 1 (pc' := 105) (l' := [some (.ref 10), none, some (.int x2), some (.int x3), none]) (st' := [.int (nI 258), .ref 11]) (fun _ => rfl) ?_
      obtain ⟨j1, hj1, hf⟩ := ob hf
      refine t_ia (rfl : mfetch 153 105 = some (105, .iaload, 1, 0, 0, 0)) rfl rfl hj1 ?_
      refine mEnds.stp 1 (pc' := 107) (l' := [some (.ref 10), none, some (.int x2), some (.int x3), none]) (st' := [.ref 10, .int (s 11 j1)]) (fun _ => rfl) ?_
      refine t_gr (rfl : mfetch 153 107 = some (107, .getfield 7, 3, 5, 0, 0)) rfl rfl ?_
      refine mEnds.stp 1 (pc' := 112) (l' := [some (.ref 10), none, some (.int x2), some (.int x3), none]) (st' := [.int (nI 50), .ref 11, .int (s 11 j1)]) (fun _ => rfl) ?_
      obtain ⟨j2, hj2, hf⟩ := ob hf
      refine t_ia (rfl : mfetch 153 112 = some (112, .iaload, 1, 0, 0, 0)) rfl rfl hj2 ?_
      refine mEnds.stp 1 (pc' := 114) (l' := [some (.ref 10), none, some (.int x2), some (.int x3), none]) (st' := [.int ((s 11 j1) - (s 11 j2))]) (fun _ => rfl) ?_
      exact mEnds.rti (Option.some.inj hf) (fun _ => rfl)
def M_hoursGo (x1 : Int32) (x2 : Int32) (s : sg) : Option (Int32 × sg) :=
  (M_copies x1 (nI 208) s).bind fun s1 =>
  (M_coldestOn (nI 208) s1).bind fun v2 =>
  (some (up s1 10 19 v2)).bind fun s2 =>
  (some (up s2 10 20 (nI 99))).bind fun s3 =>
  M_hoursGo_27 x2 FU (nI 0) s3
set_option maxRecDepth 100000 in
theorem ok_M_hoursGo {x1 : Int32} {x2 : Int32} {s : sg} {rv : (Int32 × sg)} (hf : M_hoursGo x1 x2 s = some rv) : mEnds [] 4 153 (0, [some (.ref 10), some (.int x1), some (.int x2), none, none], [], hp shM s, 0, 0) (some (.int rv.1), hp shM rv.2, 0, 0) := by
  unfold M_hoursGo at hf
  refine mEnds.stp 3 (pc' := 5) (l' := [some (.ref 10), some (.int x1), some (.int x2), none, none]) (st' := [.int (nI 208), .int x1, .ref 10]) (fun _ => rfl) ?_
  obtain ⟨s1, hs1, hf⟩ := ob hf
  refine t_cv (as := [.int x1, .int (nI 208)]) (st := []) (rfl : mfetch 153 5 = some (5, .invokevirtual 201, 3, 152, 0, 0)) rfl rfl rfl rfl rfl ((ok_M_copies hs1).deep 3) ?_
  refine mEnds.stp 3 (pc' := 13) (l' := [some (.ref 10), some (.int x1), some (.int x2), none, none]) (st' := [.int (nI 208), .ref 10, .ref 10]) (fun _ => rfl) ?_
  obtain ⟨v2, hv2, hf⟩ := ob hf
  refine t_cv (as := [.int (nI 208)]) (st := [.ref 10]) (rfl : mfetch 153 13 = some (13, .invokevirtual 204, 3, 137, 0, 0)) rfl rfl rfl rfl rfl ((ok_M_coldestOn hv2).deep 3) ?_
  obtain ⟨s2, hs2, hf⟩ := ob hf
  refine t_pi (rfl : mfetch 153 16 = some (16, .putfield 207, 3, 5, 19, 0)) rfl rfl rfl rfl hs2 ?_
  refine mEnds.stp 2 (pc' := 22) (l' := [some (.ref 10), some (.int x1), some (.int x2), none, none]) (st' := [.int (nI 99), .ref 10]) (fun _ => rfl) ?_
  obtain ⟨s3, hs3, hf⟩ := ob hf
  refine t_pi (rfl : mfetch 153 22 = some (22, .putfield 210, 3, 5, 20, 0)) rfl rfl rfl rfl hs3 ?_
  refine mEnds.stp 2 (pc' := 27) (l' := [some (.ref 10), some (.int x1), some (.int x2), some (.int (nI 0)), none]) (st' := []) (fun _ => rfl) ?_
  refine mEnds.cut (l := [some (.ref 10), none, some (.int x2), some (.int (nI 0)), none]) ⟨rfl, ⟨rfl, ⟨rfl, trivial⟩⟩⟩ ?_
  exact ok_M_hoursGo_27 FU (nI 0) s3 _ hf
def M_runs (x1 : Int32) (x2 : Int32) (s : sg) : Option (Int32 × sg) :=
  (M_in x1.toInt64 (0 : Int64) (60 : Int64) s).bind fun v1 =>
  if v1 = 0 then
    some ((-1), s)
  else
    (M_in x2.toInt64 (0 : Int64) (4 : Int64) s).bind fun v2 =>
    if v2 = 0 then
      some ((-1), s)
    else
      (M_hoursGo (nI 0) x1 s).bind fun v3 =>
      if x2 = nI 0 then
        some (v3.1, v3.2)
      else
        if x2 = nI 1 then
          (midx (nI 259) 312).bind fun j1 =>
          (midx (nI 51) 312).bind fun j2 =>
          some ((v3.2 11 j1) - (v3.2 11 j2), v3.2)
        else
          if x2 = nI 2 then
            (M_warmthOn (nI 208) v3.2).bind fun v4 =>
            some (v4, v3.2)
          else
            if x2 = nI 3 then
              some (v3.2 10 19, v3.2)
            else
              (M_onOn (nI 208) v3.2).bind fun v5 =>
              some (v5, v3.2)
set_option maxRecDepth 100000 in
theorem ok_M_runs {x1 : Int32} {x2 : Int32} {s : sg} {rv : (Int32 × sg)} (hf : M_runs x1 x2 s = some rv) : mEnds [] 5 154 (0, [some (.ref 10), some (.int x1), some (.int x2), none], [], hp shM s, 0, 0) (some (.int rv.1), hp shM rv.2, 0, 0) := by
  unfold M_runs at hf
  refine mEnds.stp 4 (pc' := 6) (l' := [some (.ref 10), some (.int x1), some (.int x2), none]) (st' := [.long (60 : Int64), .long (0 : Int64), .long x1.toInt64]) (fun _ => rfl) ?_
  obtain ⟨v1, hv1, hf⟩ := ob hf
  refine t_cs (as := [.long x1.toInt64, .long (0 : Int64), .long (60 : Int64)]) (st := []) (Or.inl rfl) (rfl : mfetch 154 6 = some (6, .invokestatic 49, 3, 111, 0, 0)) rfl rfl rfl ((ok_M_in hv1).deep 4) ?_
  by_cases hc1 : v1 = 0
  · rw [if_pos hc1] at hf
    refine t_jT (t := 24) (rfl : mfetch 154 9 = some (9, .ifCond .eq 15, 3, 0, 0, 0)) rfl (k_eq hc1) ?_
    refine mEnds.stp 1 (pc' := 25) (l' := [some (.ref 10), some (.int x1), some (.int x2), none]) (st' := [.int (-1)]) (fun _ => rfl) ?_
    exact mEnds.rti (Option.some.inj hf) (fun _ => rfl)
  · rw [if_neg hc1] at hf
    refine t_jF (rfl : mfetch 154 9 = some (9, .ifCond .eq 15, 3, 0, 0, 0)) (k_eq' hc1) ?_
    refine mEnds.stp 4 (pc' := 18) (l' := [some (.ref 10), some (.int x1), some (.int x2), none]) (st' := [.long (4 : Int64), .long (0 : Int64), .long x2.toInt64]) (fun _ => rfl) ?_
    obtain ⟨v2, hv2, hf⟩ := ob hf
    refine t_cs (as := [.long x2.toInt64, .long (0 : Int64), .long (4 : Int64)]) (st := []) (Or.inl rfl) (rfl : mfetch 154 18 = some (18, .invokestatic 49, 3, 111, 0, 0)) rfl rfl rfl ((ok_M_in hv2).deep 4) ?_
    by_cases hc2 : v2 = 0
    · rw [if_pos hc2] at hf
      refine t_jF (rfl : mfetch 154 21 = some (21, .ifCond .ne 5, 3, 0, 0, 0)) (k_ne' hc2) ?_
      refine mEnds.stp 1 (pc' := 25) (l' := [some (.ref 10), some (.int x1), some (.int x2), none]) (st' := [.int (-1)]) (fun _ => rfl) ?_
      exact mEnds.rti (Option.some.inj hf) (fun _ => rfl)
    · rw [if_neg hc2] at hf
      refine t_jT (t := 26) (rfl : mfetch 154 21 = some (21, .ifCond .ne 5, 3, 0, 0, 0)) rfl (k_ne hc2) ?_
      refine mEnds.stp 3 (pc' := 29) (l' := [some (.ref 10), some (.int x1), some (.int x2), none]) (st' := [.int x1, .int (nI 0), .ref 10]) (fun _ => rfl) ?_
      obtain ⟨v3, hv3, hf⟩ := ob hf
      refine t_cv (as := [.int (nI 0), .int x1]) (st := []) (rfl : mfetch 154 29 = some (29, .invokevirtual 215, 3, 153, 0, 0)) rfl rfl rfl rfl rfl (ok_M_hoursGo hv3) ?_
      refine mEnds.stp 2 (pc' := 34) (l' := [some (.ref 10), some (.int x1), some (.int x2), some (.int v3.1)]) (st' := [.int x2]) (fun _ => rfl) ?_
      by_cases hc3 : x2 = nI 0
      · rw [if_pos hc3] at hf
        refine t_sw hc3 (fun _ _ _ => rfl) (t := 64) ?_
        refine mEnds.stp 1 (pc' := 65) (l' := [some (.ref 10), some (.int x1), some (.int x2), some (.int v3.1)]) (st' := [.int v3.1]) (fun _ => rfl) ?_
        exact mEnds.rti (Option.some.inj hf) (fun _ => rfl)
      · rw [if_neg hc3] at hf
        by_cases hc4 : x2 = nI 1
        · rw [if_pos hc4] at hf
          refine t_sw hc4 (fun _ _ _ => rfl) (t := 66) ?_
          refine mEnds.stp 1 (pc' := 67) (l' := [some (.ref 10), some (.int x1), some (.int x2), some (.int v3.1)]) (st' := [.ref 10]) (fun _ => rfl) ?_
          refine t_gr (rfl : mfetch 154 67 = some (67, .getfield 7, 3, 5, 0, 0)) rfl rfl ?_
          refine mEnds.stp 1 (pc' := 73) (l' := [some (.ref 10), some (.int x1), some (.int x2), some (.int v3.1)]) (st' := [.int (nI 259), .ref 11]) (fun _ => rfl) ?_
          obtain ⟨j1, hj1, hf⟩ := ob hf
          refine t_ia (rfl : mfetch 154 73 = some (73, .iaload, 1, 0, 0, 0)) rfl rfl hj1 ?_
          refine mEnds.stp 1 (pc' := 75) (l' := [some (.ref 10), some (.int x1), some (.int x2), some (.int v3.1)]) (st' := [.ref 10, .int (v3.2 11 j1)]) (fun _ => rfl) ?_
          refine t_gr (rfl : mfetch 154 75 = some (75, .getfield 7, 3, 5, 0, 0)) rfl rfl ?_
          refine mEnds.stp 1 (pc' := 80) (l' := [some (.ref 10), some (.int x1), some (.int x2), some (.int v3.1)]) (st' := [.int (nI 51), .ref 11, .int (v3.2 11 j1)]) (fun _ => rfl) ?_
          obtain ⟨j2, hj2, hf⟩ := ob hf
          refine t_ia (rfl : mfetch 154 80 = some (80, .iaload, 1, 0, 0, 0)) rfl rfl hj2 ?_
          refine mEnds.stp 1 (pc' := 82) (l' := [some (.ref 10), some (.int x1), some (.int x2), some (.int v3.1)]) (st' := [.int ((v3.2 11 j1) - (v3.2 11 j2))]) (fun _ => rfl) ?_
          exact mEnds.rti (Option.some.inj hf) (fun _ => rfl)
        · rw [if_neg hc4] at hf
          by_cases hc5 : x2 = nI 2
          · rw [if_pos hc5] at hf
            refine t_sw hc5 (fun _ _ _ => rfl) (t := 83) ?_
            refine mEnds.stp 2 (pc' := 87) (l' := [some (.ref 10), some (.int x1), some (.int x2), some (.int v3.1)]) (st' := [.int (nI 208), .ref 10]) (fun _ => rfl) ?_
            obtain ⟨v4, hv4, hf⟩ := ob hf
            refine t_cv (as := [.int (nI 208)]) (st := []) (rfl : mfetch 154 87 = some (87, .invokevirtual 161, 3, 135, 0, 0)) rfl rfl rfl rfl rfl ((ok_M_warmthOn hv4).deep 4) ?_
            exact mEnds.rti (Option.some.inj hf) (fun _ => rfl)
          · rw [if_neg hc5] at hf
            by_cases hc6 : x2 = nI 3
            · rw [if_pos hc6] at hf
              refine t_sw hc6 (fun _ _ _ => rfl) (t := 91) ?_
              refine mEnds.stp 1 (pc' := 92) (l' := [some (.ref 10), some (.int x1), some (.int x2), some (.int v3.1)]) (st' := [.ref 10]) (fun _ => rfl) ?_
              refine t_gi (rfl : mfetch 154 92 = some (92, .getfield 207, 3, 5, 19, 0)) rfl rfl ?_
              exact mEnds.rti (Option.some.inj hf) (fun _ => rfl)
            · rw [if_neg hc6] at hf
              refine t_swD (t := 96) (rfl : mfetch 154 34 = some (34, .tableswitch 62 0 3 #[30, 32, 49, 57], 30, 0, 0, 0)) rfl (sw_out (fun k hk => match k, hk with | 0, _ => hc3 | 1, _ => hc4 | 2, _ => hc5 | 3, _ => hc6 | k + 4, hk => absurd hk (by omega))) ?_
              refine mEnds.stp 2 (pc' := 100) (l' := [some (.ref 10), some (.int x1), some (.int x2), some (.int v3.1)]) (st' := [.int (nI 208), .ref 10]) (fun _ => rfl) ?_
              obtain ⟨v5, hv5, hf⟩ := ob hf
              refine t_cv (as := [.int (nI 208)]) (st := []) (rfl : mfetch 154 100 = some (100, .invokevirtual 164, 3, 136, 0, 0)) rfl rfl rfl rfl rfl ((ok_M_onOn hv5).deep 4) ?_
              exact mEnds.rti (Option.some.inj hf) (fun _ => rfl)
def M_ahead (x1 : Int32) (x2 : Int32) (x3 : Int32) (s : sg) : Option (Int32 × sg) :=
  (M_isRoom x1 s).bind fun v1 =>
  if v1 = 0 then
    some ((-1), s)
  else
    (M_in x2.toInt64 (0 : Int64) (60 : Int64) s).bind fun v2 =>
    if v2 = 0 then
      some ((-1), s)
    else
      (M_in x3.toInt64 (0 : Int64) (1 : Int64) s).bind fun v3 =>
      if v3 = 0 then
        some ((-1), s)
      else
        (M_hoursGo (nI 0) x2 s).bind fun v4 =>
        if x3 = 0 then
          (midx ((nI 208) + x1) 312).bind fun j2 =>
          some (v4.2 11 j2, v4.2)
        else
          (midx ((nI 238) + x1) 312).bind fun j1 =>
          some (v4.2 11 j1, v4.2)
set_option maxRecDepth 100000 in
theorem ok_M_ahead {x1 : Int32} {x2 : Int32} {x3 : Int32} {s : sg} {rv : (Int32 × sg)} (hf : M_ahead x1 x2 x3 s = some rv) : mEnds [] 5 155 (0, [some (.ref 10), some (.int x1), some (.int x2), some (.int x3)], [], hp shM s, 0, 0) (some (.int rv.1), hp shM rv.2, 0, 0) := by
  unfold M_ahead at hf
  refine mEnds.stp 2 (pc' := 2) (l' := [some (.ref 10), some (.int x1), some (.int x2), some (.int x3)]) (st' := [.int x1, .ref 10]) (fun _ => rfl) ?_
  obtain ⟨v1, hv1, hf⟩ := ob hf
  refine t_cv (as := [.int x1]) (st := []) (rfl : mfetch 155 2 = some (2, .invokevirtual 167, 3, 126, 0, 0)) rfl rfl rfl rfl rfl ((ok_M_isRoom hv1).deep 3) ?_
  by_cases hc1 : v1 = 0
  · rw [if_pos hc1] at hf
    refine t_jT (t := 30) (rfl : mfetch 155 5 = some (5, .ifCond .eq 25, 3, 0, 0, 0)) rfl (k_eq hc1) ?_
    refine mEnds.stp 1 (pc' := 31) (l' := [some (.ref 10), some (.int x1), some (.int x2), some (.int x3)]) (st' := [.int (-1)]) (fun _ => rfl) ?_
    exact mEnds.rti (Option.some.inj hf) (fun _ => rfl)
  · rw [if_neg hc1] at hf
    refine t_jF (rfl : mfetch 155 5 = some (5, .ifCond .eq 25, 3, 0, 0, 0)) (k_eq' hc1) ?_
    refine mEnds.stp 4 (pc' := 14) (l' := [some (.ref 10), some (.int x1), some (.int x2), some (.int x3)]) (st' := [.long (60 : Int64), .long (0 : Int64), .long x2.toInt64]) (fun _ => rfl) ?_
    obtain ⟨v2, hv2, hf⟩ := ob hf
    refine t_cs (as := [.long x2.toInt64, .long (0 : Int64), .long (60 : Int64)]) (st := []) (Or.inl rfl) (rfl : mfetch 155 14 = some (14, .invokestatic 49, 3, 111, 0, 0)) rfl rfl rfl ((ok_M_in hv2).deep 4) ?_
    by_cases hc2 : v2 = 0
    · rw [if_pos hc2] at hf
      refine t_jT (t := 30) (rfl : mfetch 155 17 = some (17, .ifCond .eq 13, 3, 0, 0, 0)) rfl (k_eq hc2) ?_
      refine mEnds.stp 1 (pc' := 31) (l' := [some (.ref 10), some (.int x1), some (.int x2), some (.int x3)]) (st' := [.int (-1)]) (fun _ => rfl) ?_
      exact mEnds.rti (Option.some.inj hf) (fun _ => rfl)
    · rw [if_neg hc2] at hf
      refine t_jF (rfl : mfetch 155 17 = some (17, .ifCond .eq 13, 3, 0, 0, 0)) (k_eq' hc2) ?_
      refine mEnds.stp 4 (pc' := 24) (l' := [some (.ref 10), some (.int x1), some (.int x2), some (.int x3)]) (st' := [.long (1 : Int64), .long (0 : Int64), .long x3.toInt64]) (fun _ => rfl) ?_
      obtain ⟨v3, hv3, hf⟩ := ob hf
      refine t_cs (as := [.long x3.toInt64, .long (0 : Int64), .long (1 : Int64)]) (st := []) (Or.inl rfl) (rfl : mfetch 155 24 = some (24, .invokestatic 49, 3, 111, 0, 0)) rfl rfl rfl ((ok_M_in hv3).deep 4) ?_
      by_cases hc3 : v3 = 0
      · rw [if_pos hc3] at hf
        refine t_jF (rfl : mfetch 155 27 = some (27, .ifCond .ne 5, 3, 0, 0, 0)) (k_ne' hc3) ?_
        refine mEnds.stp 1 (pc' := 31) (l' := [some (.ref 10), some (.int x1), some (.int x2), some (.int x3)]) (st' := [.int (-1)]) (fun _ => rfl) ?_
        exact mEnds.rti (Option.some.inj hf) (fun _ => rfl)
      · rw [if_neg hc3] at hf
        refine t_jT (t := 32) (rfl : mfetch 155 27 = some (27, .ifCond .ne 5, 3, 0, 0, 0)) rfl (k_ne hc3) ?_
        refine mEnds.stp 3 (pc' := 35) (l' := [some (.ref 10), some (.int x1), some (.int x2), some (.int x3)]) (st' := [.int x2, .int (nI 0), .ref 10]) (fun _ => rfl) ?_
        obtain ⟨v4, hv4, hf⟩ := ob hf
        refine t_cv (as := [.int (nI 0), .int x2]) (st := []) (rfl : mfetch 155 35 = some (35, .invokevirtual 215, 3, 153, 0, 0)) rfl rfl rfl rfl rfl (ok_M_hoursGo hv4) ?_
        refine mEnds.stp 2 (pc' := 40) (l' := [some (.ref 10), some (.int x1), some (.int x2), some (.int x3)]) (st' := [.int x3]) (fun _ => rfl) ?_
        by_cases hc4 : x3 = 0
        · rw [if_pos hc4] at hf
          refine t_jF (rfl : mfetch 155 40 = some (40, .ifCond .ne 16, 3, 0, 0, 0)) (k_ne' hc4) ?_
          refine mEnds.stp 1 (pc' := 44) (l' := [some (.ref 10), some (.int x1), some (.int x2), some (.int x3)]) (st' := [.ref 10]) (fun _ => rfl) ?_
          refine t_gr (rfl : mfetch 155 44 = some (44, .getfield 7, 3, 5, 0, 0)) rfl rfl ?_
          refine mEnds.stp 3 (pc' := 52) (l' := [some (.ref 10), some (.int x1), some (.int x2), some (.int x3)]) (st' := [.int ((nI 208) + x1), .ref 11]) (fun _ => rfl) ?_
          obtain ⟨j2, hj2, hf⟩ := ob hf
          refine t_ia (rfl : mfetch 155 52 = some (52, .iaload, 1, 0, 0, 0)) rfl rfl hj2 ?_
          refine mEnds.stp 1 (pc' := 66) (l' := [some (.ref 10), some (.int x1), some (.int x2), some (.int x3)]) (st' := [.int (v4.2 11 j2)]) (fun _ => rfl) ?_
          exact mEnds.rti (Option.some.inj hf) (fun _ => rfl)
        · rw [if_neg hc4] at hf
          refine t_jT (t := 56) (rfl : mfetch 155 40 = some (40, .ifCond .ne 16, 3, 0, 0, 0)) rfl (k_ne hc4) ?_
          refine mEnds.stp 1 (pc' := 57) (l' := [some (.ref 10), some (.int x1), some (.int x2), some (.int x3)]) (st' := [.ref 10]) (fun _ => rfl) ?_
          refine t_gr (rfl : mfetch 155 57 = some (57, .getfield 7, 3, 5, 0, 0)) rfl rfl ?_
          refine mEnds.stp 3 (pc' := 65) (l' := [some (.ref 10), some (.int x1), some (.int x2), some (.int x3)]) (st' := [.int ((nI 238) + x1), .ref 11]) (fun _ => rfl) ?_
          obtain ⟨j1, hj1, hf⟩ := ob hf
          refine t_ia (rfl : mfetch 155 65 = some (65, .iaload, 1, 0, 0, 0)) rfl rfl hj1 ?_
          exact mEnds.rti (Option.some.inj hf) (fun _ => rfl)
