def M_lay_99 (y0 : Int32) (y1 : Int32) (s : sg) : Option (Int32 × sg) :=
  (midx y1 160).bind fun j1 =>
  (some (up s 22 j1 y0)).bind fun s1 =>
  some (nI 1, s1)
set_option maxRecDepth 100000 in
theorem ok_M_lay_99 {y0 : Int32} {y1 : Int32} {s : sg} {rv : (Int32 × sg)} (hf : M_lay_99 y0 y1 s = some rv) : mEnds [] 1 180 (99, [none, none, none, none], [.int y0, .int y1, .ref 22], hp shM s, 0, 0) (some (.int rv.1), hp shM rv.2, 0, 0) := by
  unfold M_lay_99 at hf
  obtain ⟨j1, hj1, hf⟩ := ob hf
  obtain ⟨s1, hs1, hf⟩ := ob hf
  refine t_is (rfl : mfetch 180 99 = some (99, .iastore, 1, 0, 0, 0)) rfl rfl hj1 hs1 ?_
  refine mEnds.stp 1 (pc' := 101) (l' := [none, none, none, none]) (st' := [.int (nI 1)]) (fun _ => rfl) ?_
  exact mEnds.rti (Option.some.inj hf) (fun _ => rfl)
def M_lay (x1 : Int32) (x2 : Int32) (x3 : Int32) (s : sg) : Option (Int32 × sg) :=
  (M_in x1.toInt64 (0 : Int64) (3 : Int64) s).bind fun v1 =>
  if v1 = 0 then
    some ((-1), s)
  else
    (midx x1 4).bind fun j1 =>
    if s 20 j1 = (-4) then
      some ((-11), s)
    else
      (midx x1 4).bind fun j2 =>
      (M_in x2.toInt64 (0 : Int64) (((s 21 j2) - (nI 1)).toInt64) s).bind fun v2 =>
      if v2 = 0 then
        some ((-12), s)
      else
        (midx x1 4).bind fun j3 =>
        if s 20 j3 = 0 then
          M_lay_99 ((x3 <<< ((nI 24) &&& 31)) >>> ((nI 24) &&& 31)) (((nI 40) * x1) + x2) s
        else
          (midx x1 4).bind fun j4 =>
          if s 20 j4 = nI 1 then
            M_lay_99 ((x3 <<< ((nI 16) &&& 31)) >>> ((nI 16) &&& 31)) (((nI 40) * x1) + x2) s
          else
            M_lay_99 x3 (((nI 40) * x1) + x2) s
set_option maxRecDepth 100000 in
theorem ok_M_lay {x1 : Int32} {x2 : Int32} {x3 : Int32} {s : sg} {rv : (Int32 × sg)} (hf : M_lay x1 x2 x3 s = some rv) : mEnds [] 1 180 (0, [some (.ref 10), some (.int x1), some (.int x2), some (.int x3)], [], hp shM s, 0, 0) (some (.int rv.1), hp shM rv.2, 0, 0) := by
  unfold M_lay at hf
  refine mEnds.stp 4 (pc' := 6) (l' := [some (.ref 10), some (.int x1), some (.int x2), some (.int x3)]) (st' := [.long (3 : Int64), .long (0 : Int64), .long x1.toInt64]) (fun _ => rfl) ?_
  obtain ⟨v1, hv1, hf⟩ := ob hf
  refine t_cs (as := [.long x1.toInt64, .long (0 : Int64), .long (3 : Int64)]) (st := []) (Or.inl rfl) (rfl : mfetch 180 6 = some (6, .invokestatic 49, 3, 111, 0, 0)) rfl rfl rfl (ok_M_in hv1) ?_
  by_cases hc1 : v1 = 0
  · rw [if_pos hc1] at hf
    refine t_jF (rfl : mfetch 180 9 = some (9, .ifCond .ne 5, 3, 0, 0, 0)) (k_ne' hc1) ?_
    refine mEnds.stp 1 (pc' := 13) (l' := [some (.ref 10), some (.int x1), some (.int x2), some (.int x3)]) (st' := [.int (-1)]) (fun _ => rfl) ?_
    exact mEnds.rti (Option.some.inj hf) (fun _ => rfl)
  · rw [if_neg hc1] at hf
    refine t_jT (t := 14) (rfl : mfetch 180 9 = some (9, .ifCond .ne 5, 3, 0, 0, 0)) rfl (k_ne hc1) ?_
    refine mEnds.stp 1 (pc' := 15) (l' := [some (.ref 10), some (.int x1), some (.int x2), some (.int x3)]) (st' := [.ref 10]) (fun _ => rfl) ?_
    refine t_gr (rfl : mfetch 180 15 = some (15, .getfield 38, 3, 5, 25, 0)) rfl rfl ?_
    refine mEnds.stp 1 (pc' := 19) (l' := [some (.ref 10), some (.int x1), some (.int x2), some (.int x3)]) (st' := [.int x1, .ref 20]) (fun _ => rfl) ?_
    obtain ⟨j1, hj1, hf⟩ := ob hf
    refine t_ia (rfl : mfetch 180 19 = some (19, .iaload, 1, 0, 0, 0)) rfl rfl hj1 ?_
    refine mEnds.stp 1 (pc' := 22) (l' := [some (.ref 10), some (.int x1), some (.int x2), some (.int x3)]) (st' := [.int (-4), .int (s 20 j1)]) (fun _ => rfl) ?_
    by_cases hc2 : s 20 j1 = (-4)
    · rw [if_pos hc2] at hf
      refine t_cF (rfl : mfetch 180 22 = some (22, .if_icmp .ne 6, 3, 0, 0, 0)) (k_ne' hc2) ?_
      refine mEnds.stp 1 (pc' := 27) (l' := [some (.ref 10), some (.int x1), some (.int x2), some (.int x3)]) (st' := [.int (-11)]) (fun _ => rfl) ?_
      exact mEnds.rti (Option.some.inj hf) (fun _ => rfl)
    · rw [if_neg hc2] at hf
      refine t_cT (t := 28) (rfl : mfetch 180 22 = some (22, .if_icmp .ne 6, 3, 0, 0, 0)) rfl (k_ne hc2) ?_
      refine mEnds.stp 4 (pc' := 32) (l' := [some (.ref 10), some (.int x1), some (.int x2), some (.int x3)]) (st' := [.ref 10, .long (0 : Int64), .long x2.toInt64]) (fun _ => rfl) ?_
      refine t_gr (rfl : mfetch 180 32 = some (32, .getfield 41, 3, 5, 26, 0)) rfl rfl ?_
      refine mEnds.stp 1 (pc' := 36) (l' := [some (.ref 10), some (.int x1), some (.int x2), some (.int x3)]) (st' := [.int x1, .ref 21, .long (0 : Int64), .long x2.toInt64]) (fun _ => rfl) ?_
      obtain ⟨j2, hj2, hf⟩ := ob hf
      refine t_ia (rfl : mfetch 180 36 = some (36, .iaload, 1, 0, 0, 0)) rfl rfl hj2 ?_
      refine mEnds.stp 3 (pc' := 40) (l' := [some (.ref 10), some (.int x1), some (.int x2), some (.int x3)]) (st' := [.long (((s 21 j2) - (nI 1)).toInt64), .long (0 : Int64), .long x2.toInt64]) (fun _ => rfl) ?_
      obtain ⟨v2, hv2, hf⟩ := ob hf
      refine t_cs (as := [.long x2.toInt64, .long (0 : Int64), .long (((s 21 j2) - (nI 1)).toInt64)]) (st := []) (Or.inl rfl) (rfl : mfetch 180 40 = some (40, .invokestatic 49, 3, 111, 0, 0)) rfl rfl rfl (ok_M_in hv2) ?_
      by_cases hc3 : v2 = 0
      · rw [if_pos hc3] at hf
        refine t_jF (rfl : mfetch 180 43 = some (43, .ifCond .ne 6, 3, 0, 0, 0)) (k_ne' hc3) ?_
        refine mEnds.stp 1 (pc' := 48) (l' := [some (.ref 10), some (.int x1), some (.int x2), some (.int x3)]) (st' := [.int (-12)]) (fun _ => rfl) ?_
        exact mEnds.rti (Option.some.inj hf) (fun _ => rfl)
      · rw [if_neg hc3] at hf
        refine t_jT (t := 49) (rfl : mfetch 180 43 = some (43, .ifCond .ne 6, 3, 0, 0, 0)) rfl (k_ne hc3) ?_
        refine mEnds.stp 1 (pc' := 50) (l' := [some (.ref 10), some (.int x1), some (.int x2), some (.int x3)]) (st' := [.ref 10]) (fun _ => rfl) ?_
        refine t_gr (rfl : mfetch 180 50 = some (50, .getfield 44, 3, 5, 27, 0)) rfl rfl ?_
        refine mEnds.stp 6 (pc' := 60) (l' := [some (.ref 10), some (.int x1), some (.int x2), some (.int x3)]) (st' := [.ref 10, .int (((nI 40) * x1) + x2), .ref 22]) (fun _ => rfl) ?_
        refine t_gr (rfl : mfetch 180 60 = some (60, .getfield 38, 3, 5, 25, 0)) rfl rfl ?_
        refine mEnds.stp 1 (pc' := 64) (l' := [some (.ref 10), some (.int x1), some (.int x2), some (.int x3)]) (st' := [.int x1, .ref 20, .int (((nI 40) * x1) + x2), .ref 22]) (fun _ => rfl) ?_
        obtain ⟨j3, hj3, hf⟩ := ob hf
        refine t_ia (rfl : mfetch 180 64 = some (64, .iaload, 1, 0, 0, 0)) rfl rfl hj3 ?_
        by_cases hc4 : s 20 j3 = 0
        · rw [if_pos hc4] at hf
          refine t_jF (rfl : mfetch 180 65 = some (65, .ifCond .ne 13, 3, 0, 0, 0)) (k_ne' hc4) ?_
          refine mEnds.stp 6 (pc' := 99) (l' := [some (.ref 10), some (.int x1), some (.int x2), some (.int x3)]) (st' := [.int ((x3 <<< ((nI 24) &&& 31)) >>> ((nI 24) &&& 31)), .int (((nI 40) * x1) + x2), .ref 22]) (fun _ => rfl) ?_
          refine mEnds.cut (l := [none, none, none, none]) trivial ?_
          exact ok_M_lay_99 hf
        · rw [if_neg hc4] at hf
          refine t_jT (t := 78) (rfl : mfetch 180 65 = some (65, .ifCond .ne 13, 3, 0, 0, 0)) rfl (k_ne hc4) ?_
          refine mEnds.stp 1 (pc' := 79) (l' := [some (.ref 10), some (.int x1), some (.int x2), some (.int x3)]) (st' := [.ref 10, .int (((nI 40) * x1) + x2), .ref 22]) (fun _ => rfl) ?_
          refine t_gr (rfl : mfetch 180 79 = some (79, .getfield 38, 3, 5, 25, 0)) rfl rfl ?_
          refine mEnds.stp 1 (pc' := 83) (l' := [some (.ref 10), some (.int x1), some (.int x2), some (.int x3)]) (st' := [.int x1, .ref 20, .int (((nI 40) * x1) + x2), .ref 22]) (fun _ => rfl) ?_
          obtain ⟨j4, hj4, hf⟩ := ob hf
          refine t_ia (rfl : mfetch 180 83 = some (83, .iaload, 1, 0, 0, 0)) rfl rfl hj4 ?_
          refine mEnds.stp 1 (pc' := 85) (l' := [some (.ref 10), some (.int x1), some (.int x2), some (.int x3)]) (st' := [.int (nI 1), .int (s 20 j4), .int (((nI 40) * x1) + x2), .ref 22]) (fun _ => rfl) ?_
          by_cases hc5 : s 20 j4 = nI 1
          · rw [if_pos hc5] at hf
            refine t_cF (rfl : mfetch 180 85 = some (85, .if_icmp .ne 13, 3, 0, 0, 0)) (k_ne' hc5) ?_
            refine mEnds.stp 6 (pc' := 99) (l' := [some (.ref 10), some (.int x1), some (.int x2), some (.int x3)]) (st' := [.int ((x3 <<< ((nI 16) &&& 31)) >>> ((nI 16) &&& 31)), .int (((nI 40) * x1) + x2), .ref 22]) (fun _ => rfl) ?_
            refine mEnds.cut (l := [none, none, none, none]) trivial ?_
            exact ok_M_lay_99 hf
          · rw [if_neg hc5] at hf
            refine t_cT (t := 98) (rfl : mfetch 180 85 = some (85, .if_icmp .ne 13, 3, 0, 0, 0)) rfl (k_ne hc5) ?_
            refine mEnds.stp 1 (pc' := 99) (l' := [some (.ref 10), some (.int x1), some (.int x2), some (.int x3)]) (st' := [.int x3, .int (((nI 40) * x1) + x2), .ref 22]) (fun _ => rfl) ?_
            refine mEnds.cut (l := [none, none, none, none]) trivial ?_
            exact ok_M_lay_99 hf
def M_read_193 (k56 : Int32 → Int32 → Int32 → sg → Option (Int32 × sg)) (x1 : Int32) (x2 : Int32) (x3 : Int32) (x4 : Int32) (x5 : Int32) (x6 : Int32) (x7 : Int32) (y0 : Int32) (s : sg) : Option (Int32 × sg) :=
  if y0 = 0 then
    (M_copies (nI 156) (nI 0) s).bind fun s2 =>
    some ((-20) - x6, s2)
  else
    (M_goesOn (nI 0) s).bind fun s1 =>
    k56 x5 (x6 + (nI 1)) (x7 + (nI 1)) s1
set_option maxRecDepth 100000 in
theorem ok_M_read_193 {k56 : Int32 → Int32 → Int32 → sg → Option (Int32 × sg)} {x1 : Int32} {x2 : Int32} {x3 : Int32} {x4 : Int32} {x5 : Int32} {x6 : Int32} {x7 : Int32} {y0 : Int32} {s : sg} {rv : (Int32 × sg)} (hk56 : ∀ (x5 : Int32) (x6 : Int32) (x7 : Int32) (s : sg) (rv : (Int32 × sg)), k56 x5 x6 x7 s = some rv → mEnds [] 4 181 (56, [some (.ref 10), some (.int x1), some (.int x2), some (.int x3), some (.int x4), some (.int x5), some (.int x6), some (.int x7), none, none], [], hp shM s, 0, 0) (some (.int rv.1), hp shM rv.2, 0, 0)) (hf : M_read_193 k56 x1 x2 x3 x4 x5 x6 x7 y0 s = some rv) : mEnds [] 4 181 (193, [some (.ref 10), some (.int x1), some (.int x2), some (.int x3), some (.int x4), some (.int x5), some (.int x6), some (.int x7), none, none], [.int y0], hp shM s, 0, 0) (some (.int rv.1), hp shM rv.2, 0, 0) := by
  unfold M_read_193 at hf
  refine mEnds.stp 2 (pc' := 197) (l' := [some (.ref 10), some (.int x1), some (.int x2), some (.int x3), some (.int x4), some (.int x5), some (.int x6), some (.int x7), none, some (.int y0)]) (st' := [.int y0]) (fun _ => rfl) ?_
  by_cases hc1 : y0 = 0
  · rw [if_pos hc1] at hf
    refine t_jF (rfl : mfetch 181 197 = some (197, .ifCond .ne 17, 3, 0, 0, 0)) (k_ne' hc1) ?_
    refine mEnds.stp 3 (pc' := 205) (l' := [some (.ref 10), some (.int x1), some (.int x2), some (.int x3), some (.int x4), some (.int x5), some (.int x6), some (.int x7), none, some (.int y0)]) (st' := [.int (nI 0), .int (nI 156), .ref 10]) (fun _ => rfl) ?_
    obtain ⟨s2, hs2, hf⟩ := ob hf
    refine t_cv (as := [.int (nI 156), .int (nI 0)]) (st := []) (rfl : mfetch 181 205 = some (205, .invokevirtual 201, 3, 152, 0, 0)) rfl rfl rfl rfl rfl ((ok_M_copies hs2).deep 3) ?_
    refine mEnds.stp 3 (pc' := 213) (l' := [some (.ref 10), some (.int x1), some (.int x2), some (.int x3), some (.int x4), some (.int x5), some (.int x6), some (.int x7), none, some (.int y0)]) (st' := [.int ((-20) - x6)]) (fun _ => rfl) ?_
    exact mEnds.rti (Option.some.inj hf) (fun _ => rfl)
  · rw [if_neg hc1] at hf
    refine t_jT (t := 214) (rfl : mfetch 181 197 = some (197, .ifCond .ne 17, 3, 0, 0, 0)) rfl (k_ne hc1) ?_
    refine mEnds.stp 2 (pc' := 216) (l' := [some (.ref 10), some (.int x1), some (.int x2), some (.int x3), some (.int x4), some (.int x5), some (.int x6), some (.int x7), none, some (.int y0)]) (st' := [.int (nI 0), .ref 10]) (fun _ => rfl) ?_
    obtain ⟨s1, hs1, hf⟩ := ob hf
    refine t_cv (as := [.int (nI 0)]) (st := []) (rfl : mfetch 181 216 = some (216, .invokevirtual 198, 3, 134, 0, 0)) rfl rfl rfl rfl rfl (ok_M_goesOn hs1) ?_
    refine mEnds.stp 3 (pc' := 56) (l' := [some (.ref 10), some (.int x1), some (.int x2), some (.int x3), some (.int x4), some (.int x5), some (.int (x6 + (nI 1))), some (.int (x7 + (nI 1))), none, some (.int y0)]) (st' := []) (fun _ => rfl) ?_
    refine mEnds.cut (l := [some (.ref 10), some (.int x1), some (.int x2), some (.int x3), some (.int x4), some (.int x5), some (.int (x6 + (nI 1))), some (.int (x7 + (nI 1))), none, none]) ⟨rfl, ⟨rfl, ⟨rfl, ⟨rfl, ⟨rfl, ⟨rfl, ⟨rfl, ⟨rfl, trivial⟩⟩⟩⟩⟩⟩⟩⟩ ?_
    exact hk56 x5 (x6 + (nI 1)) (x7 + (nI 1)) s1 _ hf
def M_read_192 (k56 : Int32 → Int32 → Int32 → sg → Option (Int32 × sg)) (x1 : Int32) (x2 : Int32) (x3 : Int32) (x4 : Int32) (x5 : Int32) (x6 : Int32) (x7 : Int32) (s : sg) : Option (Int32 × sg) :=
  M_read_193 k56 x1 x2 x3 x4 x5 x6 x7 (nI 0) s
set_option maxRecDepth 100000 in
theorem ok_M_read_192 {k56 : Int32 → Int32 → Int32 → sg → Option (Int32 × sg)} {x1 : Int32} {x2 : Int32} {x3 : Int32} {x4 : Int32} {x5 : Int32} {x6 : Int32} {x7 : Int32} {s : sg} {rv : (Int32 × sg)} (hk56 : ∀ (x5 : Int32) (x6 : Int32) (x7 : Int32) (s : sg) (rv : (Int32 × sg)), k56 x5 x6 x7 s = some rv → mEnds [] 4 181 (56, [some (.ref 10), some (.int x1), some (.int x2), some (.int x3), some (.int x4), some (.int x5), some (.int x6), some (.int x7), none, none], [], hp shM s, 0, 0) (some (.int rv.1), hp shM rv.2, 0, 0)) (hf : M_read_192 k56 x1 x2 x3 x4 x5 x6 x7 s = some rv) : mEnds [] 4 181 (192, [some (.ref 10), some (.int x1), some (.int x2), some (.int x3), some (.int x4), some (.int x5), some (.int x6), some (.int x7), none, none], [], hp shM s, 0, 0) (some (.int rv.1), hp shM rv.2, 0, 0) := by
  unfold M_read_192 at hf
  refine mEnds.stp 1 (pc' := 193) (l' := [some (.ref 10), some (.int x1), some (.int x2), some (.int x3), some (.int x4), some (.int x5), some (.int x6), some (.int x7), none, none]) (st' := [.int (nI 0)]) (fun _ => rfl) ?_
  refine mEnds.cut (l := [some (.ref 10), some (.int x1), some (.int x2), some (.int x3), some (.int x4), some (.int x5), some (.int x6), some (.int x7), none, none]) ⟨rfl, ⟨rfl, ⟨rfl, ⟨rfl, ⟨rfl, ⟨rfl, ⟨rfl, ⟨rfl, trivial⟩⟩⟩⟩⟩⟩⟩⟩ ?_
  exact ok_M_read_193 hk56 hf
def M_read_126 (k56 : Int32 → Int32 → Int32 → sg → Option (Int32 × sg)) (x1 : Int32) (x2 : Int32) (x3 : Int32) (x4 : Int32) (x6 : Int32) (x7 : Int32) (y0 : Int32) (s : sg) : Option (Int32 × sg) :=
  if y0 = 0 then
    if x7 - x7 / (nI 2) * (nI 2) = nI 1 then
      (midx (((((nI 40) * x1) + x3) + x7) - (nI 1)) 160).bind fun j1 =>
      (midx ((((nI 40) * x1) + x3) + x7) 160).bind fun j2 =>
      (M_marks (s 22 j1) (s 22 j2) s).bind fun v1 =>
      if v1.1 < 0 then
        M_read_192 k56 x1 x2 x3 x4 y0 x6 x7 v1.2
      else
        (midx (nI 49) 312).bind fun j3 =>
        if v1.2 11 j3 < nI 999 then
          M_read_193 k56 x1 x2 x3 x4 y0 x6 x7 (nI 1) v1.2
        else
          M_read_192 k56 x1 x2 x3 x4 y0 x6 x7 v1.2
    else
      k56 y0 x6 (x7 + (nI 1)) s
  else
    k56 y0 x6 (x7 + (nI 1)) s
set_option maxRecDepth 100000 in
theorem ok_M_read_126 {k56 : Int32 → Int32 → Int32 → sg → Option (Int32 × sg)} {x1 : Int32} {x2 : Int32} {x3 : Int32} {x4 : Int32} {x6 : Int32} {x7 : Int32} {y0 : Int32} {s : sg} {rv : (Int32 × sg)} (hk56 : ∀ (x5 : Int32) (x6 : Int32) (x7 : Int32) (s : sg) (rv : (Int32 × sg)), k56 x5 x6 x7 s = some rv → mEnds [] 4 181 (56, [some (.ref 10), some (.int x1), some (.int x2), some (.int x3), some (.int x4), some (.int x5), some (.int x6), some (.int x7), none, none], [], hp shM s, 0, 0) (some (.int rv.1), hp shM rv.2, 0, 0)) (hf : M_read_126 k56 x1 x2 x3 x4 x6 x7 y0 s = some rv) : mEnds [] 4 181 (126, [some (.ref 10), some (.int x1), some (.int x2), some (.int x3), some (.int x4), none, some (.int x6), some (.int x7), none, none], [.int y0], hp shM s, 0, 0) (some (.int rv.1), hp shM rv.2, 0, 0) := by
  unfold M_read_126 at hf
  refine mEnds.stp 2 (pc' := 130) (l' := [some (.ref 10), some (.int x1), some (.int x2), some (.int x3), some (.int x4), some (.int y0), some (.int x6), some (.int x7), none, none]) (st' := [.int y0]) (fun _ => rfl) ?_
  by_cases hc1 : y0 = 0
  · rw [if_pos hc1] at hf
    refine t_jF (rfl : mfetch 181 130 = some (130, .ifCond .ne 92, 3, 0, 0, 0)) (k_ne' hc1) ?_
    refine mEnds.stp 4 (pc' := 138) (l' := [some (.ref 10), some (.int x1), some (.int x2), some (.int x3), some (.int x4), some (.int y0), some (.int x6), some (.int x7), none, none]) (st' := [.int (nI 1), .int (x7 - x7 / (nI 2) * (nI 2))]) (fun _ => rfl) ?_
    by_cases hc2 : x7 - x7 / (nI 2) * (nI 2) = nI 1
    · rw [if_pos hc2] at hf
      refine t_cF (rfl : mfetch 181 138 = some (138, .if_icmp .ne 84, 3, 0, 0, 0)) (k_ne' hc2) ?_
      refine mEnds.stp 10 (pc' := 154) (l' := [some (.ref 10), some (.int x1), some (.int x2), some (.int x3), some (.int x4), some (.int y0), some (.int x6), some (.int x7), some (.int ((((nI 40) * x1) + x3) + x7)), none]) (st' := [.ref 10, .ref 10]) (fun _ => rfl) ?_
      refine t_gr (rfl : mfetch 181 154 = some (154, .getfield 44, 3, 5, 27, 0)) rfl rfl ?_
      refine mEnds.stp 3 (pc' := 161) (l' := [some (.ref 10), some (.int x1), some (.int x2), some (.int x3), some (.int x4), some (.int y0), some (.int x6), some (.int x7), some (.int ((((nI 40) * x1) + x3) + x7)), none]) (st' := [.int (((((nI 40) * x1) + x3) + x7) - (nI 1)), .ref 22, .ref 10]) (fun _ => rfl) ?_
      obtain ⟨j1, hj1, hf⟩ := ob hf
      refine t_ia (rfl : mfetch 181 161 = some (161, .iaload, 1, 0, 0, 0)) rfl rfl hj1 ?_
      refine mEnds.stp 1 (pc' := 163) (l' := [some (.ref 10), some (.int x1), some (.int x2), some (.int x3), some (.int x4), some (.int y0), some (.int x6), some (.int x7), some (.int ((((nI 40) * x1) + x3) + x7)), none]) (st' := [.ref 10, .int (s 22 j1), .ref 10]) (fun _ => rfl) ?_
      refine t_gr (rfl : mfetch 181 163 = some (163, .getfield 44, 3, 5, 27, 0)) rfl rfl ?_
      refine mEnds.stp 1 (pc' := 168) (l' := [some (.ref 10), some (.int x1), some (.int x2), some (.int x3), some (.int x4), some (.int y0), some (.int x6), some (.int x7), some (.int ((((nI 40) * x1) + x3) + x7)), none]) (st' := [.int ((((nI 40) * x1) + x3) + x7), .ref 22, .int (s 22 j1), .ref 10]) (fun _ => rfl) ?_
      obtain ⟨j2, hj2, hf⟩ := ob hf
      refine t_ia (rfl : mfetch 181 168 = some (168, .iaload, 1, 0, 0, 0)) rfl rfl hj2 ?_
      obtain ⟨v1, hv1, hf⟩ := ob hf
      refine t_cv (as := [.int (s 22 j1), .int (s 22 j2)]) (st := []) (rfl : mfetch 181 169 = some (169, .invokevirtual 195, 3, 147, 0, 0)) rfl rfl rfl rfl rfl ((ok_M_marks hv1).deep 1) ?_
      by_cases hc3 : v1.1 < 0
      · rw [if_pos hc3] at hf
        refine t_jT (t := 192) (rfl : mfetch 181 172 = some (172, .ifCond .lt 20, 3, 0, 0, 0)) rfl (k_lt hc3) ?_
        refine mEnds.cut (l := [some (.ref 10), some (.int x1), some (.int x2), some (.int x3), some (.int x4), some (.int y0), some (.int x6), some (.int x7), none, none]) ⟨rfl, ⟨rfl, ⟨rfl, ⟨rfl, ⟨rfl, ⟨rfl, ⟨rfl, ⟨rfl, trivial⟩⟩⟩⟩⟩⟩⟩⟩ ?_
        exact ok_M_read_192 hk56 hf
      · rw [if_neg hc3] at hf
        refine t_jF (rfl : mfetch 181 172 = some (172, .ifCond .lt 20, 3, 0, 0, 0)) (k_lt' hc3) ?_
        refine mEnds.stp 1 (pc' := 176) (l' := [some (.ref 10), some (.int x1), some (.int x2), some (.int x3), some (.int x4), some (.int y0), some (.int x6), some (.int x7), some (.int ((((nI 40) * x1) + x3) + x7)), none]) (st' := [.ref 10]) (fun _ => rfl) ?_
        refine t_gr (rfl : mfetch 181 176 = some (176, .getfield 7, 3, 5, 0, 0)) rfl rfl ?_
        refine mEnds.stp 1 (pc' := 181) (l' := [some (.ref 10), some (.int x1), some (.int x2), some (.int x3), some (.int x4), some (.int y0), some (.int x6), some (.int x7), some (.int ((((nI 40) * x1) + x3) + x7)), none]) (st' := [.int (nI 49), .ref 11]) (fun _ => rfl) ?_
        obtain ⟨j3, hj3, hf⟩ := ob hf
        refine t_ia (rfl : mfetch 181 181 = some (181, .iaload, 1, 0, 0, 0)) rfl rfl hj3 ?_
        refine mEnds.stp 1 (pc' := 185) (l' := [some (.ref 10), some (.int x1), some (.int x2), some (.int x3), some (.int x4), some (.int y0), some (.int x6), some (.int x7), some (.int ((((nI 40) * x1) + x3) + x7)), none]) (st' := [.int (nI 999), .int (v1.2 11 j3)]) (fun _ => rfl) ?_
        by_cases hc4 : v1.2 11 j3 < nI 999
        · rw [if_pos hc4] at hf
          refine t_cF (rfl : mfetch 181 185 = some (185, .if_icmp .ge 7, 3, 0, 0, 0)) (k_ge' hc4) ?_
          refine mEnds.stp 2 (pc' := 193) (l' := [some (.ref 10), some (.int x1), some (.int x2), some (.int x3), some (.int x4), some (.int y0), some (.int x6), some (.int x7), some (.int ((((nI 40) * x1) + x3) + x7)), none]) (st' := [.int (nI 1)]) (fun _ => rfl) ?_
          refine mEnds.cut (l := [some (.ref 10), some (.int x1), some (.int x2), some (.int x3), some (.int x4), some (.int y0), some (.int x6), some (.int x7), none, none]) ⟨rfl, ⟨rfl, ⟨rfl, ⟨rfl, ⟨rfl, ⟨rfl, ⟨rfl, ⟨rfl, trivial⟩⟩⟩⟩⟩⟩⟩⟩ ?_
          exact ok_M_read_193 hk56 hf
        · rw [if_neg hc4] at hf
          refine t_cT (t := 192) (rfl : mfetch 181 185 = some (185, .if_icmp .ge 7, 3, 0, 0, 0)) rfl (k_ge hc4) ?_
          refine mEnds.cut (l := [some (.ref 10), some (.int x1), some (.int x2), some (.int x3), some (.int x4), some (.int y0), some (.int x6), some (.int x7), none, none]) ⟨rfl, ⟨rfl, ⟨rfl, ⟨rfl, ⟨rfl, ⟨rfl, ⟨rfl, ⟨rfl, trivial⟩⟩⟩⟩⟩⟩⟩⟩ ?_
          exact ok_M_read_192 hk56 hf
    · rw [if_neg hc2] at hf
      refine t_cT (t := 222) (rfl : mfetch 181 138 = some (138, .if_icmp .ne 84, 3, 0, 0, 0)) rfl (k_ne hc2) ?_
      refine mEnds.stp 2 (pc' := 56) (l' := [some (.ref 10), some (.int x1), some (.int x2), some (.int x3), some (.int x4), some (.int y0), some (.int x6), some (.int (x7 + (nI 1))), none, none]) (st' := []) (fun _ => rfl) ?_
      refine mEnds.cut (l := [some (.ref 10), some (.int x1), some (.int x2), some (.int x3), some (.int x4), some (.int y0), some (.int x6), some (.int (x7 + (nI 1))), none, none]) ⟨rfl, ⟨rfl, ⟨rfl, ⟨rfl, ⟨rfl, ⟨rfl, ⟨rfl, ⟨rfl, trivial⟩⟩⟩⟩⟩⟩⟩⟩ ?_
      exact hk56 y0 x6 (x7 + (nI 1)) s _ hf
  · rw [if_neg hc1] at hf
    refine t_jT (t := 222) (rfl : mfetch 181 130 = some (130, .ifCond .ne 92, 3, 0, 0, 0)) rfl (k_ne hc1) ?_
    refine mEnds.stp 2 (pc' := 56) (l' := [some (.ref 10), some (.int x1), some (.int x2), some (.int x3), some (.int x4), some (.int y0), some (.int x6), some (.int (x7 + (nI 1))), none, none]) (st' := []) (fun _ => rfl) ?_
    refine mEnds.cut (l := [some (.ref 10), some (.int x1), some (.int x2), some (.int x3), some (.int x4), some (.int y0), some (.int x6), some (.int (x7 + (nI 1))), none, none]) ⟨rfl, ⟨rfl, ⟨rfl, ⟨rfl, ⟨rfl, ⟨rfl, ⟨rfl, ⟨rfl, trivial⟩⟩⟩⟩⟩⟩⟩⟩ ?_
    exact hk56 y0 x6 (x7 + (nI 1)) s _ hf
def M_read_228 (x5 : Int32) (x6 : Int32) (s : sg) : Option (Int32 × sg) :=
  (some (up s 10 28 x5)).bind fun s1 =>
  some (x6, s1)
set_option maxRecDepth 100000 in
theorem ok_M_read_228 {x5 : Int32} {x6 : Int32} {s : sg} {rv : (Int32 × sg)} (hf : M_read_228 x5 x6 s = some rv) : mEnds [] 4 181 (228, [some (.ref 10), none, none, none, none, some (.int x5), some (.int x6), none, none, none], [], hp shM s, 0, 0) (some (.int rv.1), hp shM rv.2, 0, 0) := by
  unfold M_read_228 at hf
  refine mEnds.stp 2 (pc' := 231) (l' := [some (.ref 10), none, none, none, none, some (.int x5), some (.int x6), none, none, none]) (st' := [.int x5, .ref 10]) (fun _ => rfl) ?_
  obtain ⟨s1, hs1, hf⟩ := ob hf
  refine t_pi (rfl : mfetch 181 231 = some (231, .putfield 250, 3, 5, 28, 0)) rfl rfl rfl rfl hs1 ?_
  refine mEnds.stp 1 (pc' := 236) (l' := [some (.ref 10), none, none, none, none, some (.int x5), some (.int x6), none, none, none]) (st' := [.int x6]) (fun _ => rfl) ?_
  exact mEnds.rti (Option.some.inj hf) (fun _ => rfl)
def M_read_56 (x1 : Int32) (x2 : Int32) (x3 : Int32) (x4 : Int32) : Nat → Int32 → Int32 → Int32 → sg → Option (Int32 × sg)
  | 0, _, _, _, _ => none
  | fu + 1, x5, x6, x7, s =>
  if x7 < (nI 2) * x4 then
    if x5 = 0 then
      (midx x1 4).bind fun j1 =>
      if s 20 j1 = (-4) then
        M_read_126 (M_read_56 x1 x2 x3 x4 fu) x1 x2 x3 x4 x6 x7 (nI 1) s
      else
        (midx x1 4).bind fun j2 =>
        if s 20 j2 = x2 then
          (midx x1 4).bind fun j3 =>
          (M_in (x3.toInt64 + x7.toInt64) (0 : Int64) (((s 21 j3) - (nI 1)).toInt64) s).bind fun v1 =>
          if v1 = 0 then
            M_read_126 (M_read_56 x1 x2 x3 x4 fu) x1 x2 x3 x4 x6 x7 (nI 2) s
          else
            M_read_126 (M_read_56 x1 x2 x3 x4 fu) x1 x2 x3 x4 x6 x7 (nI 0) s
        else
          M_read_126 (M_read_56 x1 x2 x3 x4 fu) x1 x2 x3 x4 x6 x7 (nI 3) s
    else
      M_read_228 x5 x6 s
  else
    M_read_228 x5 x6 s
set_option maxRecDepth 100000 in
theorem ok_M_read_56 {x1 : Int32} {x2 : Int32} {x3 : Int32} {x4 : Int32} : ∀ (fu : Nat) (x5 : Int32) (x6 : Int32) (x7 : Int32) (s : sg) (rv : (Int32 × sg)), M_read_56 x1 x2 x3 x4 fu x5 x6 x7 s = some rv → mEnds [] 4 181 (56, [some (.ref 10), some (.int x1), some (.int x2), some (.int x3), some (.int x4), some (.int x5), some (.int x6), some (.int x7), none, none], [], hp shM s, 0, 0) (some (.int rv.1), hp shM rv.2, 0, 0)
  | 0, _, _, _, _, _, hf => by cases hf
  | fu + 1, x5, x6, x7, s, rv, hf => by
    rw [M_read_56] at hf
    refine mEnds.stp 4 (pc' := 62) (l' := [some (.ref 10), some (.int x1), some (.int x2), some (.int x3), some (.int x4), some (.int x5), some (.int x6), some (.int x7), none, none]) (st' := [.int ((nI 2) * x4), .int x7]) (fun _ => rfl) ?_
    by_cases hc1 : x7 < (nI 2) * x4
    · rw [if_pos hc1] at hf
      refine t_cF (rfl : mfetch 181 62 = some (62, .if_icmp .ge 166, 3, 0, 0, 0)) (k_ge' hc1) ?_
      refine mEnds.stp 1 (pc' := 67) (l' := [some (.ref 10), some (.int x1), some (.int x2), some (.int x3), some (.int x4), some (.int x5), some (.int x6), some (.int x7), none, none]) (st' := [.int x5]) (fun _ => rfl) ?_
      by_cases hc2 : x5 = 0
      · rw [if_pos hc2] at hf
        refine t_jF (rfl : mfetch 181 67 = some (67, .ifCond .ne 161, 3, 0, 0, 0)) (k_ne' hc2) ?_
        refine mEnds.stp 1 (pc' := 71) (l' := [some (.ref 10), some (.int x1), some (.int x2), some (.int x3), some (.int x4), some (.int x5), some (.int x6), some (.int x7), none, none]) (st' := [.ref 10]) (fun _ => rfl) ?_
        refine t_gr (rfl : mfetch 181 71 = some (71, .getfield 38, 3, 5, 25, 0)) rfl rfl ?_
        refine mEnds.stp 1 (pc' := 75) (l' := [some (.ref 10), some (.int x1), some (.int x2), some (.int x3), some (.int x4), some (.int x5), some (.int x6), some (.int x7), none, none]) (st' := [.int x1, .ref 20]) (fun _ => rfl) ?_
        obtain ⟨j1, hj1, hf⟩ := ob hf
        refine t_ia (rfl : mfetch 181 75 = some (75, .iaload, 1, 0, 0, 0)) rfl rfl hj1 ?_
        refine mEnds.stp 1 (pc' := 78) (l' := [some (.ref 10), some (.int x1), some (.int x2), some (.int x3), some (.int x4), some (.int x5), some (.int x6), some (.int x7), none, none]) (st' := [.int (-4), .int (s 20 j1)]) (fun _ => rfl) ?_
        by_cases hc3 : s 20 j1 = (-4)
        · rw [if_pos hc3] at hf
          refine t_cF (rfl : mfetch 181 78 = some (78, .if_icmp .ne 7, 3, 0, 0, 0)) (k_ne' hc3) ?_
          refine mEnds.stp 2 (pc' := 126) (l' := [some (.ref 10), some (.int x1), some (.int x2), some (.int x3), some (.int x4), some (.int x5), some (.int x6), some (.int x7), none, none]) (st' := [.int (nI 1)]) (fun _ => rfl) ?_
          refine mEnds.cut (l := [some (.ref 10), some (.int x1), some (.int x2), some (.int x3), some (.int x4), none, some (.int x6), some (.int x7), none, none]) ⟨rfl, ⟨rfl, ⟨rfl, ⟨rfl, ⟨rfl, ⟨rfl, ⟨rfl, trivial⟩⟩⟩⟩⟩⟩⟩ ?_
          exact ok_M_read_126 (ok_M_read_56 fu) hf
        · rw [if_neg hc3] at hf
          refine t_cT (t := 85) (rfl : mfetch 181 78 = some (78, .if_icmp .ne 7, 3, 0, 0, 0)) rfl (k_ne hc3) ?_
          refine mEnds.stp 1 (pc' := 86) (l' := [some (.ref 10), some (.int x1), some (.int x2), some (.int x3), some (.int x4), some (.int x5), some (.int x6), some (.int x7), none, none]) (st' := [.ref 10]) (fun _ => rfl) ?_
          refine t_gr (rfl : mfetch 181 86 = some (86, .getfield 38, 3, 5, 25, 0)) rfl rfl ?_
          refine mEnds.stp 1 (pc' := 90) (l' := [some (.ref 10), some (.int x1), some (.int x2), some (.int x3), some (.int x4), some (.int x5), some (.int x6), some (.int x7), none, none]) (st' := [.int x1, .ref 20]) (fun _ => rfl) ?_
          obtain ⟨j2, hj2, hf⟩ := ob hf
          refine t_ia (rfl : mfetch 181 90 = some (90, .iaload, 1, 0, 0, 0)) rfl rfl hj2 ?_
          refine mEnds.stp 1 (pc' := 92) (l' := [some (.ref 10), some (.int x1), some (.int x2), some (.int x3), some (.int x4), some (.int x5), some (.int x6), some (.int x7), none, none]) (st' := [.int x2, .int (s 20 j2)]) (fun _ => rfl) ?_
          by_cases hc4 : s 20 j2 = x2
          · rw [if_pos hc4] at hf
            refine t_cT (t := 99) (rfl : mfetch 181 92 = some (92, .if_icmp .eq 7, 3, 0, 0, 0)) rfl (k_eq hc4) ?_
            refine mEnds.stp 7 (pc' := 107) (l' := [some (.ref 10), some (.int x1), some (.int x2), some (.int x3), some (.int x4), some (.int x5), some (.int x6), some (.int x7), none, none]) (st' := [.ref 10, .long (0 : Int64), .long (x3.toInt64 + x7.toInt64)]) (fun _ => rfl) ?_
            refine t_gr (rfl : mfetch 181 107 = some (107, .getfield 41, 3, 5, 26, 0)) rfl rfl ?_
            refine mEnds.stp 1 (pc' := 111) (l' := [some (.ref 10), some (.int x1), some (.int x2), some (.int x3), some (.int x4), some (.int x5), some (.int x6), some (.int x7), none, none]) (st' := [.int x1, .ref 21, .long (0 : Int64), .long (x3.toInt64 + x7.toInt64)]) (fun _ => rfl) ?_
            obtain ⟨j3, hj3, hf⟩ := ob hf
            refine t_ia (rfl : mfetch 181 111 = some (111, .iaload, 1, 0, 0, 0)) rfl rfl hj3 ?_
            refine mEnds.stp 3 (pc' := 115) (l' := [some (.ref 10), some (.int x1), some (.int x2), some (.int x3), some (.int x4), some (.int x5), some (.int x6), some (.int x7), none, none]) (st' := [.long (((s 21 j3) - (nI 1)).toInt64), .long (0 : Int64), .long (x3.toInt64 + x7.toInt64)]) (fun _ => rfl) ?_
            obtain ⟨v1, hv1, hf⟩ := ob hf
            refine t_cs (as := [.long (x3.toInt64 + x7.toInt64), .long (0 : Int64), .long (((s 21 j3) - (nI 1)).toInt64)]) (st := []) (Or.inl rfl) (rfl : mfetch 181 115 = some (115, .invokestatic 49, 3, 111, 0, 0)) rfl rfl rfl ((ok_M_in hv1).deep 3) ?_
            by_cases hc5 : v1 = 0
            · rw [if_pos hc5] at hf
              refine t_jF (rfl : mfetch 181 118 = some (118, .ifCond .ne 7, 3, 0, 0, 0)) (k_ne' hc5) ?_
              refine mEnds.stp 2 (pc' := 126) (l' := [some (.ref 10), some (.int x1), some (.int x2), some (.int x3), some (.int x4), some (.int x5), some (.int x6), some (.int x7), none, none]) (st' := [.int (nI 2)]) (fun _ => rfl) ?_
              refine mEnds.cut (l := [some (.ref 10), some (.int x1), some (.int x2), some (.int x3), some (.int x4), none, some (.int x6), some (.int x7), none, none]) ⟨rfl, ⟨rfl, ⟨rfl, ⟨rfl, ⟨rfl, ⟨rfl, ⟨rfl, trivial⟩⟩⟩⟩⟩⟩⟩ ?_
              exact ok_M_read_126 (ok_M_read_56 fu) hf
            · rw [if_neg hc5] at hf
              refine t_jT (t := 125) (rfl : mfetch 181 118 = some (118, .ifCond .ne 7, 3, 0, 0, 0)) rfl (k_ne hc5) ?_
              refine mEnds.stp 1 (pc' := 126) (l' := [some (.ref 10), some (.int x1), some (.int x2), some (.int x3), some (.int x4), some (.int x5), some (.int x6), some (.int x7), none, none]) (st' := [.int (nI 0)]) (fun _ => rfl) ?_
              refine mEnds.cut (l := [some (.ref 10), some (.int x1), some (.int x2), some (.int x3), some (.int x4), none, some (.int x6), some (.int x7), none, none]) ⟨rfl, ⟨rfl, ⟨rfl, ⟨rfl, ⟨rfl, ⟨rfl, ⟨rfl, trivial⟩⟩⟩⟩⟩⟩⟩ ?_
              exact ok_M_read_126 (ok_M_read_56 fu) hf
          · rw [if_neg hc4] at hf
            refine t_cF (rfl : mfetch 181 92 = some (92, .if_icmp .eq 7, 3, 0, 0, 0)) (k_eq' hc4) ?_
            refine mEnds.stp 2 (pc' := 126) (l' := [some (.ref 10), some (.int x1), some (.int x2), some (.int x3), some (.int x4), some (.int x5), some (.int x6), some (.int x7), none, none]) (st' := [.int (nI 3)]) (fun _ => rfl) ?_
            refine mEnds.cut (l := [some (.ref 10), some (.int x1), some (.int x2), some (.int x3), some (.int x4), none, some (.int x6), some (.int x7), none, none]) ⟨rfl, ⟨rfl, ⟨rfl, ⟨rfl, ⟨rfl, ⟨rfl, ⟨rfl, trivial⟩⟩⟩⟩⟩⟩⟩ ?_
            exact ok_M_read_126 (ok_M_read_56 fu) hf
      · rw [if_neg hc2] at hf
        refine t_jT (t := 228) (rfl : mfetch 181 67 = some (67, .ifCond .ne 161, 3, 0, 0, 0)) rfl (k_ne hc2) ?_
        refine mEnds.cut (l := [some (.ref 10), none, none, none, none, some (.int x5), some (.int x6), none, none, none]) ⟨rfl, ⟨rfl, ⟨rfl, trivial⟩⟩⟩ ?_
        exact ok_M_read_228 hf
    · rw [if_neg hc1] at hf
      refine t_cT (t := 228) (rfl : mfetch 181 62 = some (62, .if_icmp .ge 166, 3, 0, 0, 0)) rfl (k_ge hc1) ?_
      refine mEnds.cut (l := [some (.ref 10), none, none, none, none, some (.int x5), some (.int x6), none, none, none]) ⟨rfl, ⟨rfl, ⟨rfl, trivial⟩⟩⟩ ?_
      exact ok_M_read_228 hf
def M_read (x1 : Int32) (x2 : Int32) (x3 : Int32) (x4 : Int32) (s : sg) : Option (Int32 × sg) :=
  (M_in x1.toInt64 (0 : Int64) (3 : Int64) s).bind fun v1 =>
  if v1 = 0 then
    some ((-1), s)
  else
    (M_in x2.toInt64 (0 : Int64) (2 : Int64) s).bind fun v2 =>
    if v2 = 0 then
      some ((-1), s)
    else
      (M_in x4.toInt64 (0 : Int64) (20 : Int64) s).bind fun v3 =>
      if v3 = 0 then
        some ((-1), s)
      else
        (M_copies (nI 0) (nI 156) s).bind fun s1 =>
        M_read_56 x1 x2 x3 x4 FU (nI 0) (nI 0) (nI 0) s1
set_option maxRecDepth 100000 in
theorem ok_M_read {x1 : Int32} {x2 : Int32} {x3 : Int32} {x4 : Int32} {s : sg} {rv : (Int32 × sg)} (hf : M_read x1 x2 x3 x4 s = some rv) : mEnds [] 4 181 (0, [some (.ref 10), some (.int x1), some (.int x2), some (.int x3), some (.int x4), none, none, none, none, none], [], hp shM s, 0, 0) (some (.int rv.1), hp shM rv.2, 0, 0) := by
  unfold M_read at hf
  refine mEnds.stp 4 (pc' := 6) (l' := [some (.ref 10), some (.int x1), some (.int x2), some (.int x3), some (.int x4), none, none, none, none, none]) (st' := [.long (3 : Int64), .long (0 : Int64), .long x1.toInt64]) (fun _ => rfl) ?_
  obtain ⟨v1, hv1, hf⟩ := ob hf
  refine t_cs (as := [.long x1.toInt64, .long (0 : Int64), .long (3 : Int64)]) (st := []) (Or.inl rfl) (rfl : mfetch 181 6 = some (6, .invokestatic 49, 3, 111, 0, 0)) rfl rfl rfl ((ok_M_in hv1).deep 3) ?_
  by_cases hc1 : v1 = 0
  · rw [if_pos hc1] at hf
    refine t_jT (t := 37) (rfl : mfetch 181 9 = some (9, .ifCond .eq 28, 3, 0, 0, 0)) rfl (k_eq hc1) ?_
    refine mEnds.stp 1 (pc' := 38) (l' := [some (.ref 10), some (.int x1), some (.int x2), some (.int x3), some (.int x4), none, none, none, none, none]) (st' := [.int (-1)]) (fun _ => rfl) ?_
    exact mEnds.rti (Option.some.inj hf) (fun _ => rfl)
  · rw [if_neg hc1] at hf
    refine t_jF (rfl : mfetch 181 9 = some (9, .ifCond .eq 28, 3, 0, 0, 0)) (k_eq' hc1) ?_
    refine mEnds.stp 4 (pc' := 18) (l' := [some (.ref 10), some (.int x1), some (.int x2), some (.int x3), some (.int x4), none, none, none, none, none]) (st' := [.long (2 : Int64), .long (0 : Int64), .long x2.toInt64]) (fun _ => rfl) ?_
    obtain ⟨v2, hv2, hf⟩ := ob hf
    refine t_cs (as := [.long x2.toInt64, .long (0 : Int64), .long (2 : Int64)]) (st := []) (Or.inl rfl) (rfl : mfetch 181 18 = some (18, .invokestatic 49, 3, 111, 0, 0)) rfl rfl rfl ((ok_M_in hv2).deep 3) ?_
    by_cases hc2 : v2 = 0
    · rw [if_pos hc2] at hf
      refine t_jT (t := 37) (rfl : mfetch 181 21 = some (21, .ifCond .eq 16, 3, 0, 0, 0)) rfl (k_eq hc2) ?_
      refine mEnds.stp 1 (pc' := 38) (l' := [some (.ref 10), some (.int x1), some (.int x2), some (.int x3), some (.int x4), none, none, none, none, none]) (st' := [.int (-1)]) (fun _ => rfl) ?_
      exact mEnds.rti (Option.some.inj hf) (fun _ => rfl)
    · rw [if_neg hc2] at hf
      refine t_jF (rfl : mfetch 181 21 = some (21, .ifCond .eq 16, 3, 0, 0, 0)) (k_eq' hc2) ?_
      refine mEnds.stp 4 (pc' := 31) (l' := [some (.ref 10), some (.int x1), some (.int x2), some (.int x3), some (.int x4), none, none, none, none, none]) (st' := [.long (20 : Int64), .long (0 : Int64), .long x4.toInt64]) (fun _ => rfl) ?_
      obtain ⟨v3, hv3, hf⟩ := ob hf
      refine t_cs (as := [.long x4.toInt64, .long (0 : Int64), .long (20 : Int64)]) (st := []) (Or.inl rfl) (rfl : mfetch 181 31 = some (31, .invokestatic 49, 3, 111, 0, 0)) rfl rfl rfl ((ok_M_in hv3).deep 3) ?_
      by_cases hc3 : v3 = 0
      · rw [if_pos hc3] at hf
        refine t_jF (rfl : mfetch 181 34 = some (34, .ifCond .ne 5, 3, 0, 0, 0)) (k_ne' hc3) ?_
        refine mEnds.stp 1 (pc' := 38) (l' := [some (.ref 10), some (.int x1), some (.int x2), some (.int x3), some (.int x4), none, none, none, none, none]) (st' := [.int (-1)]) (fun _ => rfl) ?_
        exact mEnds.rti (Option.some.inj hf) (fun _ => rfl)
      · rw [if_neg hc3] at hf
        refine t_jT (t := 39) (rfl : mfetch 181 34 = some (34, .ifCond .ne 5, 3, 0, 0, 0)) rfl (k_ne hc3) ?_
        refine mEnds.stp 3 (pc' := 44) (l' := [some (.ref 10), some (.int x1), some (.int x2), some (.int x3), some (.int x4), none, none, none, none, none]) (st' := [.int (nI 156), .int (nI 0), .ref 10]) (fun _ => rfl) ?_
        obtain ⟨s1, hs1, hf⟩ := ob hf
        refine t_cv (as := [.int (nI 0), .int (nI 156)]) (st := []) (rfl : mfetch 181 44 = some (44, .invokevirtual 201, 3, 152, 0, 0)) rfl rfl rfl rfl rfl ((ok_M_copies hs1).deep 3) ?_
        refine mEnds.stp 6 (pc' := 56) (l' := [some (.ref 10), some (.int x1), some (.int x2), some (.int x3), some (.int x4), some (.int (nI 0)), some (.int (nI 0)), some (.int (nI 0)), none, none]) (st' := []) (fun _ => rfl) ?_
        refine mEnds.cut (l := [some (.ref 10), some (.int x1), some (.int x2), some (.int x3), some (.int x4), some (.int (nI 0)), some (.int (nI 0)), some (.int (nI 0)), none, none]) ⟨rfl, ⟨rfl, ⟨rfl, ⟨rfl, ⟨rfl, ⟨rfl, ⟨rfl, ⟨rfl, trivial⟩⟩⟩⟩⟩⟩⟩⟩ ?_
        exact ok_M_read_56 FU (nI 0) (nI 0) (nI 0) s1 _ hf
def M_torn (s : sg) : Option Int32 :=
  some (s 10 28)
set_option maxRecDepth 100000 in
theorem ok_M_torn {s : sg} {rv : Int32} (hf : M_torn s = some rv) : mEnds [] 0 182 (0, [some (.ref 10)], [], hp shM s, 0, 0) (some (.int rv), hp shM s, 0, 0) := by
  unfold M_torn at hf
  refine mEnds.stp 1 (pc' := 1) (l' := [some (.ref 10)]) (st' := [.ref 10]) (fun _ => rfl) ?_
  refine t_gi (rfl : mfetch 182 1 = some (1, .getfield 250, 3, 5, 28, 0)) rfl rfl ?_
  cases hf; exact mEnds.rt (fun _ => rfl)
def M_count_127 (y0 : Int32) (s : sg) : Option Int32 :=
  (midx (nI 1) 2).bind fun j1 =>
  if s 19 j1 = 0 then
    some (y0 + (nI 0))
  else
    some (y0 + (nI 1))
set_option maxRecDepth 100000 in
theorem ok_M_count_127 {y0 : Int32} {s : sg} {rv : Int32} (hf : M_count_127 y0 s = some rv) : mEnds [] 0 183 (127, [some (.ref 10), none, none, none, none], [.int y0], hp shM s, 0, 0) (some (.int rv), hp shM s, 0, 0) := by
  unfold M_count_127 at hf
  refine mEnds.stp 1 (pc' := 128) (l' := [some (.ref 10), none, none, none, none]) (st' := [.ref 10, .int y0]) (fun _ => rfl) ?_
  refine t_gr (rfl : mfetch 183 128 = some (128, .getfield 34, 3, 5, 24, 0)) rfl rfl ?_
  refine mEnds.stp 1 (pc' := 132) (l' := [some (.ref 10), none, none, none, none]) (st' := [.int (nI 1), .ref 19, .int y0]) (fun _ => rfl) ?_
  obtain ⟨j1, hj1, hf⟩ := ob hf
  refine t_ba (rfl : mfetch 183 132 = some (132, .baload, 1, 0, 0, 0)) rfl rfl rfl hj1 ?_
  by_cases hc1 : s 19 j1 = 0
  · rw [if_pos hc1] at hf
    refine t_jT (t := 140) (rfl : mfetch 183 133 = some (133, .ifCond .eq 7, 3, 0, 0, 0)) rfl (k_eq hc1) ?_
    refine mEnds.stp 2 (pc' := 142) (l' := [some (.ref 10), none, none, none, none]) (st' := [.int (y0 + (nI 0))]) (fun _ => rfl) ?_
    cases hf; exact mEnds.rt (fun _ => rfl)
  · rw [if_neg hc1] at hf
    refine t_jF (rfl : mfetch 183 133 = some (133, .ifCond .eq 7, 3, 0, 0, 0)) (k_eq' hc1) ?_
    refine mEnds.stp 3 (pc' := 142) (l' := [some (.ref 10), none, none, none, none]) (st' := [.int (y0 + (nI 1))]) (fun _ => rfl) ?_
    cases hf; exact mEnds.rt (fun _ => rfl)
def M_count_38 (x1 : Int32) (x2 : Int32) (s : sg) : Nat → Int32 → Int32 → Option Int32
  | 0, _, _ => none
  | fu + 1, x3, x4 =>
  if x4 < (s 10 1) - (nI 1) then
    (midx ((nI 36) + x4) 312).bind fun j4 =>
    M_count_38 x1 x2 s fu (x3 + ((s 11 j4) + (nI 2))) (x4 + (nI 1))
  else
    if x1 = nI 0 then
      some (s 10 22)
    else
      if x1 = nI 1 then
        (midx (nI 0) 2).bind fun j1 =>
        if s 19 j1 = 0 then
          M_count_127 (nI 0) s
        else
          M_count_127 (nI 1) s
      else
        if x1 = nI 2 then
          some (s 10 8)
        else
          if x1 = nI 3 then
            (midx (nI 0) 4).bind fun j2 =>
            if s 20 j2 = (-4) then
              some (-4)
            else
              (midx (nI 0) 4).bind fun j3 =>
              some (s 21 j3)
          else
            if x1 = nI 4 then
              some x2
            else
              if x1 = nI 5 then
                some x3
              else
                some (-1)
set_option maxRecDepth 100000 in
theorem ok_M_count_38 {x1 : Int32} {x2 : Int32} {s : sg} : ∀ (fu : Nat) (x3 : Int32) (x4 : Int32) (rv : Int32), M_count_38 x1 x2 s fu x3 x4 = some rv → mEnds [] 0 183 (38, [some (.ref 10), some (.int x1), some (.int x2), some (.int x3), some (.int x4)], [], hp shM s, 0, 0) (some (.int rv), hp shM s, 0, 0)
  | 0, _, _, _, hf => by cases hf
  | fu + 1, x3, x4, rv, hf => by
    rw [M_count_38] at hf
    refine mEnds.stp 2 (pc' := 41) (l' := [some (.ref 10), some (.int x1), some (.int x2), some (.int x3), some (.int x4)]) (st' := [.ref 10, .int x4]) (fun _ => rfl) ?_
    refine t_gi (rfl : mfetch 183 41 = some (41, .getfield 139, 3, 5, 1, 0)) rfl rfl ?_
    refine mEnds.stp 2 (pc' := 46) (l' := [some (.ref 10), some (.int x1), some (.int x2), some (.int x3), some (.int x4)]) (st' := [.int ((s 10 1) - (nI 1)), .int x4]) (fun _ => rfl) ?_
    by_cases hc1 : x4 < (s 10 1) - (nI 1)
    · rw [if_pos hc1] at hf
      refine t_cF (rfl : mfetch 183 46 = some (46, .if_icmp .ge 24, 3, 0, 0, 0)) (k_ge' hc1) ?_
      refine mEnds.stp 2 (pc' := 51) (l' := [some (.ref 10), some (.int x1), some (.int x2), some (.int x3), some (.int x4)]) (st' := [.ref 10, .int x3]) (fun _ => rfl) ?_
      refine t_gr (rfl : mfetch 183 51 = some (51, .getfield 7, 3, 5, 0, 0)) rfl rfl ?_
      refine mEnds.stp 3 (pc' := 59) (l' := [some (.ref 10), some (.int x1), some (.int x2), some (.int x3), some (.int x4)]) (st' := [.int ((nI 36) + x4), .ref 11, .int x3]) (fun _ => rfl) ?_
      obtain ⟨j4, hj4, hf⟩ := ob hf
      refine t_ia (rfl : mfetch 183 59 = some (59, .iaload, 1, 0, 0, 0)) rfl rfl hj4 ?_
      refine mEnds.stp 6 (pc' := 38) (l' := [some (.ref 10), some (.int x1), some (.int x2), some (.int (x3 + ((s 11 j4) + (nI 2)))), some (.int (x4 + (nI 1)))]) (st' := []) (fun _ => rfl) ?_
      refine mEnds.cut (l := [some (.ref 10), some (.int x1), some (.int x2), some (.int (x3 + ((s 11 j4) + (nI 2)))), some (.int (x4 + (nI 1)))]) ⟨rfl, ⟨rfl, ⟨rfl, ⟨rfl, ⟨rfl, trivial⟩⟩⟩⟩⟩ ?_
      exact ok_M_count_38 fu (x3 + ((s 11 j4) + (nI 2))) (x4 + (nI 1)) _ hf
    · rw [if_neg hc1] at hf
      refine t_cT (t := 70) (rfl : mfetch 183 46 = some (46, .if_icmp .ge 24, 3, 0, 0, 0)) rfl (k_ge hc1) ?_
      refine mEnds.stp 1 (pc' := 71) (l' := [some (.ref 10), some (.int x1), some (.int x2), some (.int x3), some (.int x4)]) (st' := [.int x1]) (fun _ => rfl) ?_
      by_cases hc2 : x1 = nI 0
      · rw [if_pos hc2] at hf
        refine t_sw hc2 (fun _ _ _ => rfl) (t := 108) ?_
        refine mEnds.stp 1 (pc' := 109) (l' := [some (.ref 10), some (.int x1), some (.int x2), some (.int x3), some (.int x4)]) (st' := [.ref 10]) (fun _ => rfl) ?_
        refine t_gi (rfl : mfetch 183 109 = some (109, .getfield 142, 3, 5, 22, 0)) rfl rfl ?_
        cases hf; exact mEnds.rt (fun _ => rfl)
      · rw [if_neg hc2] at hf
        by_cases hc3 : x1 = nI 1
        · rw [if_pos hc3] at hf
          refine t_sw hc3 (fun _ _ _ => rfl) (t := 113) ?_
          refine mEnds.stp 1 (pc' := 114) (l' := [some (.ref 10), some (.int x1), some (.int x2), some (.int x3), some (.int x4)]) (st' := [.ref 10]) (fun _ => rfl) ?_
          refine t_gr (rfl : mfetch 183 114 = some (114, .getfield 34, 3, 5, 24, 0)) rfl rfl ?_
          refine mEnds.stp 1 (pc' := 118) (l' := [some (.ref 10), some (.int x1), some (.int x2), some (.int x3), some (.int x4)]) (st' := [.int (nI 0), .ref 19]) (fun _ => rfl) ?_
          obtain ⟨j1, hj1, hf⟩ := ob hf
          refine t_ba (rfl : mfetch 183 118 = some (118, .baload, 1, 0, 0, 0)) rfl rfl rfl hj1 ?_
          by_cases hc4 : s 19 j1 = 0
          · rw [if_pos hc4] at hf
            refine t_jT (t := 126) (rfl : mfetch 183 119 = some (119, .ifCond .eq 7, 3, 0, 0, 0)) rfl (k_eq hc4) ?_
            refine mEnds.stp 1 (pc' := 127) (l' := [some (.ref 10), some (.int x1), some (.int x2), some (.int x3), some (.int x4)]) (st' := [.int (nI 0)]) (fun _ => rfl) ?_
            refine mEnds.cut (l := [some (.ref 10), none, none, none, none]) ⟨rfl, trivial⟩ ?_
            exact ok_M_count_127 hf
          · rw [if_neg hc4] at hf
            refine t_jF (rfl : mfetch 183 119 = some (119, .ifCond .eq 7, 3, 0, 0, 0)) (k_eq' hc4) ?_
            refine mEnds.stp 2 (pc' := 127) (l' := [some (.ref 10), some (.int x1), some (.int x2), some (.int x3), some (.int x4)]) (st' := [.int (nI 1)]) (fun _ => rfl) ?_
            refine mEnds.cut (l := [some (.ref 10), none, none, none, none]) ⟨rfl, trivial⟩ ?_
            exact ok_M_count_127 hf
        · rw [if_neg hc3] at hf
          by_cases hc5 : x1 = nI 2
          · rw [if_pos hc5] at hf
            refine t_sw hc5 (fun _ _ _ => rfl) (t := 143) ?_
            refine mEnds.stp 1 (pc' := 144) (l' := [some (.ref 10), some (.int x1), some (.int x2), some (.int x3), some (.int x4)]) (st' := [.ref 10]) (fun _ => rfl) ?_
            refine t_gi (rfl : mfetch 183 144 = some (144, .getfield 53, 3, 5, 8, 0)) rfl rfl ?_
            cases hf; exact mEnds.rt (fun _ => rfl)
          · rw [if_neg hc5] at hf
            by_cases hc6 : x1 = nI 3
            · rw [if_pos hc6] at hf
              refine t_sw hc6 (fun _ _ _ => rfl) (t := 148) ?_
              refine mEnds.stp 1 (pc' := 149) (l' := [some (.ref 10), some (.int x1), some (.int x2), some (.int x3), some (.int x4)]) (st' := [.ref 10]) (fun _ => rfl) ?_
              refine t_gr (rfl : mfetch 183 149 = some (149, .getfield 38, 3, 5, 25, 0)) rfl rfl ?_
              refine mEnds.stp 1 (pc' := 153) (l' := [some (.ref 10), some (.int x1), some (.int x2), some (.int x3), some (.int x4)]) (st' := [.int (nI 0), .ref 20]) (fun _ => rfl) ?_
              obtain ⟨j2, hj2, hf⟩ := ob hf
              refine t_ia (rfl : mfetch 183 153 = some (153, .iaload, 1, 0, 0, 0)) rfl rfl hj2 ?_
              refine mEnds.stp 1 (pc' := 156) (l' := [some (.ref 10), some (.int x1), some (.int x2), some (.int x3), some (.int x4)]) (st' := [.int (-4), .int (s 20 j2)]) (fun _ => rfl) ?_
              by_cases hc7 : s 20 j2 = (-4)
              · rw [if_pos hc7] at hf
                refine t_cF (rfl : mfetch 183 156 = some (156, .if_icmp .ne 8, 3, 0, 0, 0)) (k_ne' hc7) ?_
                refine mEnds.stp 2 (pc' := 170) (l' := [some (.ref 10), some (.int x1), some (.int x2), some (.int x3), some (.int x4)]) (st' := [.int (-4)]) (fun _ => rfl) ?_
                cases hf; exact mEnds.rt (fun _ => rfl)
              · rw [if_neg hc7] at hf
                refine t_cT (t := 164) (rfl : mfetch 183 156 = some (156, .if_icmp .ne 8, 3, 0, 0, 0)) rfl (k_ne hc7) ?_
                refine mEnds.stp 1 (pc' := 165) (l' := [some (.ref 10), some (.int x1), some (.int x2), some (.int x3), some (.int x4)]) (st' := [.ref 10]) (fun _ => rfl) ?_
                refine t_gr (rfl : mfetch 183 165 = some (165, .getfield 41, 3, 5, 26, 0)) rfl rfl ?_
                refine mEnds.stp 1 (pc' := 169) (l' := [some (.ref 10), some (.int x1), some (.int x2), some (.int x3), some (.int x4)]) (st' := [.int (nI 0), .ref 21]) (fun _ => rfl) ?_
                obtain ⟨j3, hj3, hf⟩ := ob hf
                refine t_ia (rfl : mfetch 183 169 = some (169, .iaload, 1, 0, 0, 0)) rfl rfl hj3 ?_
                cases hf; exact mEnds.rt (fun _ => rfl)
            · rw [if_neg hc6] at hf
              by_cases hc8 : x1 = nI 4
              · rw [if_pos hc8] at hf
                refine t_sw hc8 (fun _ _ _ => rfl) (t := 171) ?_
                refine mEnds.stp 1 (pc' := 172) (l' := [some (.ref 10), some (.int x1), some (.int x2), some (.int x3), some (.int x4)]) (st' := [.int x2]) (fun _ => rfl) ?_
                cases hf; exact mEnds.rt (fun _ => rfl)
              · rw [if_neg hc8] at hf
                by_cases hc9 : x1 = nI 5
                · rw [if_pos hc9] at hf
                  refine t_sw hc9 (fun _ _ _ => rfl) (t := 173) ?_
                  refine mEnds.stp 1 (pc' := 174) (l' := [some (.ref 10), some (.int x1), some (.int x2), some (.int x3), some (.int x4)]) (st' := [.int x3]) (fun _ => rfl) ?_
                  cases hf; exact mEnds.rt (fun _ => rfl)
                · rw [if_neg hc9] at hf
                  refine t_swD (t := 175) (rfl : mfetch 183 71 = some (71, .tableswitch 104 0 5 #[37, 42, 72, 77, 100, 102], 37, 0, 0, 0)) rfl (sw_out (fun k hk => match k, hk with | 0, _ => hc2 | 1, _ => hc3 | 2, _ => hc5 | 3, _ => hc6 | 4, _ => hc8 | 5, _ => hc9 | k + 6, hk => absurd hk (by omega))) ?_
                  refine mEnds.stp 1 (pc' := 176) (l' := [some (.ref 10), some (.int x1), some (.int x2), some (.int x3), some (.int x4)]) (st' := [.int (-1)]) (fun _ => rfl) ?_
                  cases hf; exact mEnds.rt (fun _ => rfl)
def M_count_7 (x1 : Int32) (x3 : Int32) (s : sg) : Nat → Int32 → Int32 → Option Int32
  | 0, _, _ => none
  | fu + 1, x2, x4 =>
  if x4 < s 10 1 then
    (midx ((nI 6) + x4) 312).bind fun j1 =>
    M_count_7 x1 x3 s fu (x2 + (s 11 j1)) (x4 + (nI 1))
  else
    M_count_38 x1 x2 s FU x3 (nI 0)
set_option maxRecDepth 100000 in
theorem ok_M_count_7 {x1 : Int32} {x3 : Int32} {s : sg} : ∀ (fu : Nat) (x2 : Int32) (x4 : Int32) (rv : Int32), M_count_7 x1 x3 s fu x2 x4 = some rv → mEnds [] 0 183 (7, [some (.ref 10), some (.int x1), some (.int x2), some (.int x3), some (.int x4)], [], hp shM s, 0, 0) (some (.int rv), hp shM s, 0, 0)
  | 0, _, _, _, hf => by cases hf
  | fu + 1, x2, x4, rv, hf => by
    rw [M_count_7] at hf
    refine mEnds.stp 2 (pc' := 10) (l' := [some (.ref 10), some (.int x1), some (.int x2), some (.int x3), some (.int x4)]) (st' := [.ref 10, .int x4]) (fun _ => rfl) ?_
    refine t_gi (rfl : mfetch 183 10 = some (10, .getfield 139, 3, 5, 1, 0)) rfl rfl ?_
    by_cases hc1 : x4 < s 10 1
    · rw [if_pos hc1] at hf
      refine t_cF (rfl : mfetch 183 13 = some (13, .if_icmp .ge 22, 3, 0, 0, 0)) (k_ge' hc1) ?_
      refine mEnds.stp 2 (pc' := 18) (l' := [some (.ref 10), some (.int x1), some (.int x2), some (.int x3), some (.int x4)]) (st' := [.ref 10, .int x2]) (fun _ => rfl) ?_
      refine t_gr (rfl : mfetch 183 18 = some (18, .getfield 7, 3, 5, 0, 0)) rfl rfl ?_
      refine mEnds.stp 3 (pc' := 26) (l' := [some (.ref 10), some (.int x1), some (.int x2), some (.int x3), some (.int x4)]) (st' := [.int ((nI 6) + x4), .ref 11, .int x2]) (fun _ => rfl) ?_
      obtain ⟨j1, hj1, hf⟩ := ob hf
      refine t_ia (rfl : mfetch 183 26 = some (26, .iaload, 1, 0, 0, 0)) rfl rfl hj1 ?_
      refine mEnds.stp 4 (pc' := 7) (l' := [some (.ref 10), some (.int x1), some (.int (x2 + (s 11 j1))), some (.int x3), some (.int (x4 + (nI 1)))]) (st' := []) (fun _ => rfl) ?_
      refine mEnds.cut (l := [some (.ref 10), some (.int x1), some (.int (x2 + (s 11 j1))), some (.int x3), some (.int (x4 + (nI 1)))]) ⟨rfl, ⟨rfl, ⟨rfl, ⟨rfl, ⟨rfl, trivial⟩⟩⟩⟩⟩ ?_
      exact ok_M_count_7 fu (x2 + (s 11 j1)) (x4 + (nI 1)) _ hf
    · rw [if_neg hc1] at hf
      refine t_cT (t := 35) (rfl : mfetch 183 13 = some (13, .if_icmp .ge 22, 3, 0, 0, 0)) rfl (k_ge hc1) ?_
      refine mEnds.stp 2 (pc' := 38) (l' := [some (.ref 10), some (.int x1), some (.int x2), some (.int x3), some (.int (nI 0))]) (st' := []) (fun _ => rfl) ?_
      refine mEnds.cut (l := [some (.ref 10), some (.int x1), some (.int x2), some (.int x3), some (.int (nI 0))]) ⟨rfl, ⟨rfl, ⟨rfl, ⟨rfl, ⟨rfl, trivial⟩⟩⟩⟩⟩ ?_
      exact ok_M_count_38 FU x3 (nI 0) _ hf
def M_count (x1 : Int32) (s : sg) : Option Int32 :=
  M_count_7 x1 (nI 0) s FU (nI 0) (nI 0)
set_option maxRecDepth 100000 in
theorem ok_M_count {x1 : Int32} {s : sg} {rv : Int32} (hf : M_count x1 s = some rv) : mEnds [] 0 183 (0, [some (.ref 10), some (.int x1), none, none, none], [], hp shM s, 0, 0) (some (.int rv), hp shM s, 0, 0) := by
  unfold M_count at hf
  refine mEnds.stp 6 (pc' := 7) (l' := [some (.ref 10), some (.int x1), some (.int (nI 0)), some (.int (nI 0)), some (.int (nI 0))]) (st' := []) (fun _ => rfl) ?_
  refine mEnds.cut (l := [some (.ref 10), some (.int x1), some (.int (nI 0)), some (.int (nI 0)), some (.int (nI 0))]) ⟨rfl, ⟨rfl, ⟨rfl, ⟨rfl, ⟨rfl, trivial⟩⟩⟩⟩⟩ ?_
  exact ok_M_count_7 FU (nI 0) (nI 0) _ hf
