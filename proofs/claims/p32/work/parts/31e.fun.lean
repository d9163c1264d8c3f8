def M_cold_32 (x1 : Int32) (x2 : Int32) : Nat → Int32 → sg → Option (Int32 × sg)
  | 0, _, _ => none
  | fu + 1, x3, s =>
  if nI 60 < x3 then
    some ((-4), s)
  else
    (midx ((nI 208) + x1) 312).bind fun j1 =>
    if x2 < s 11 j1 then
      (M_goesOn (nI 208) s).bind fun s1 =>
      M_cold_32 x1 x2 fu (x3 + (nI 1)) s1
    else
      some (x3, s)
set_option maxRecDepth 100000 in
theorem ok_M_cold_32 {x1 : Int32} {x2 : Int32} : ∀ (fu : Nat) (x3 : Int32) (s : sg) (rv : (Int32 × sg)), M_cold_32 x1 x2 fu x3 s = some rv → mEnds [] 4 156 (32, [some (.ref 10), some (.int x1), some (.int x2), some (.int x3)], [], hp shM s, 0, 0) (some (.int rv.1), hp shM rv.2, 0, 0)
  | 0, _, _, _, hf => by cases hf
  | fu + 1, x3, s, rv, hf => by
    rw [M_cold_32] at hf
    refine mEnds.stp 2 (pc' := 35) (l' := [some (.ref 10), some (.int x1), some (.int x2), some (.int x3)]) (st' := [.int (nI 60), .int x3]) (fun _ => rfl) ?_
    by_cases hc1 : nI 60 < x3
    · rw [if_pos hc1] at hf
      refine t_cT (t := 67) (rfl : mfetch 156 35 = some (35, .if_icmp .gt 32, 3, 0, 0, 0)) rfl (k_gt hc1) ?_
      refine mEnds.stp 1 (pc' := 69) (l' := [some (.ref 10), some (.int x1), some (.int x2), some (.int x3)]) (st' := [.int (-4)]) (fun _ => rfl) ?_
      exact mEnds.rti (Option.some.inj hf) (fun _ => rfl)
    · rw [if_neg hc1] at hf
      refine t_cF (rfl : mfetch 156 35 = some (35, .if_icmp .gt 32, 3, 0, 0, 0)) (k_gt' hc1) ?_
      refine mEnds.stp 1 (pc' := 39) (l' := [some (.ref 10), some (.int x1), some (.int x2), some (.int x3)]) (st' := [.ref 10]) (fun _ => rfl) ?_
      refine t_gr (rfl : mfetch 156 39 = some (39, .getfield 7, 3, 5, 0, 0)) rfl rfl ?_
      refine mEnds.stp 3 (pc' := 47) (l' := [some (.ref 10), some (.int x1), some (.int x2), some (.int x3)]) (st' := [.int ((nI 208) + x1), .ref 11]) (fun _ => rfl) ?_
      obtain ⟨j1, hj1, hf⟩ := ob hf
      refine t_ia (rfl : mfetch 156 47 = some (47, .iaload, 1, 0, 0, 0)) rfl rfl hj1 ?_
      refine mEnds.stp 1 (pc' := 49) (l' := [some (.ref 10), some (.int x1), some (.int x2), some (.int x3)]) (st' := [.int x2, .int (s 11 j1)]) (fun _ => rfl) ?_
      by_cases hc2 : x2 < s 11 j1
      · rw [if_pos hc2] at hf
        refine t_cT (t := 54) (rfl : mfetch 156 49 = some (49, .if_icmp .gt 5, 3, 0, 0, 0)) rfl (k_gt hc2) ?_
        refine mEnds.stp 2 (pc' := 58) (l' := [some (.ref 10), some (.int x1), some (.int x2), some (.int x3)]) (st' := [.int (nI 208), .ref 10]) (fun _ => rfl) ?_
        obtain ⟨s1, hs1, hf⟩ := ob hf
        refine t_cv (as := [.int (nI 208)]) (st := []) (rfl : mfetch 156 58 = some (58, .invokevirtual 198, 3, 134, 0, 0)) rfl rfl rfl rfl rfl (ok_M_goesOn hs1) ?_
        refine mEnds.stp 2 (pc' := 32) (l' := [some (.ref 10), some (.int x1), some (.int x2), some (.int (x3 + (nI 1)))]) (st' := []) (fun _ => rfl) ?_
        refine mEnds.cut (l := [some (.ref 10), some (.int x1), some (.int x2), some (.int (x3 + (nI 1)))]) ⟨rfl, ⟨rfl, ⟨rfl, ⟨rfl, trivial⟩⟩⟩⟩ ?_
        exact ok_M_cold_32 fu (x3 + (nI 1)) s1 _ hf
      · rw [if_neg hc2] at hf
        refine t_cF (rfl : mfetch 156 49 = some (49, .if_icmp .gt 5, 3, 0, 0, 0)) (k_gt' hc2) ?_
        refine mEnds.stp 1 (pc' := 53) (l' := [some (.ref 10), some (.int x1), some (.int x2), some (.int x3)]) (st' := [.int x3]) (fun _ => rfl) ?_
        exact mEnds.rti (Option.some.inj hf) (fun _ => rfl)
def M_cold (x1 : Int32) (x2 : Int32) (s : sg) : Option (Int32 × sg) :=
  (M_isRoom x1 s).bind fun v1 =>
  if v1 = 0 then
    some ((-1), s)
  else
    (M_in x2.toInt64 (0 : Int64) (99 : Int64) s).bind fun v2 =>
    if v2 = 0 then
      some ((-1), s)
    else
      (M_copies (nI 0) (nI 208) s).bind fun s1 =>
      M_cold_32 x1 x2 FU (nI 0) s1
set_option maxRecDepth 100000 in
theorem ok_M_cold {x1 : Int32} {x2 : Int32} {s : sg} {rv : (Int32 × sg)} (hf : M_cold x1 x2 s = some rv) : mEnds [] 4 156 (0, [some (.ref 10), some (.int x1), some (.int x2), none], [], hp shM s, 0, 0) (some (.int rv.1), hp shM rv.2, 0, 0) := by
  unfold M_cold at hf
  refine mEnds.stp 2 (pc' := 2) (l' := [some (.ref 10), some (.int x1), some (.int x2), none]) (st' := [.int x1, .ref 10]) (fun _ => rfl) ?_
  obtain ⟨v1, hv1, hf⟩ := ob hf
  refine t_cv (as := [.int x1]) (st := []) (rfl : mfetch 156 2 = some (2, .invokevirtual 167, 3, 126, 0, 0)) rfl rfl rfl rfl rfl ((ok_M_isRoom hv1).deep 2) ?_
  by_cases hc1 : v1 = 0
  · rw [if_pos hc1] at hf
    refine t_jT (t := 20) (rfl : mfetch 156 5 = some (5, .ifCond .eq 15, 3, 0, 0, 0)) rfl (k_eq hc1) ?_
    refine mEnds.stp 1 (pc' := 21) (l' := [some (.ref 10), some (.int x1), some (.int x2), none]) (st' := [.int (-1)]) (fun _ => rfl) ?_
    exact mEnds.rti (Option.some.inj hf) (fun _ => rfl)
  · rw [if_neg hc1] at hf
    refine t_jF (rfl : mfetch 156 5 = some (5, .ifCond .eq 15, 3, 0, 0, 0)) (k_eq' hc1) ?_
    refine mEnds.stp 4 (pc' := 14) (l' := [some (.ref 10), some (.int x1), some (.int x2), none]) (st' := [.long (99 : Int64), .long (0 : Int64), .long x2.toInt64]) (fun _ => rfl) ?_
    obtain ⟨v2, hv2, hf⟩ := ob hf
    refine t_cs (as := [.long x2.toInt64, .long (0 : Int64), .long (99 : Int64)]) (st := []) (Or.inl rfl) (rfl : mfetch 156 14 = some (14, .invokestatic 49, 3, 111, 0, 0)) rfl rfl rfl ((ok_M_in hv2).deep 3) ?_
    by_cases hc2 : v2 = 0
    · rw [if_pos hc2] at hf
      refine t_jF (rfl : mfetch 156 17 = some (17, .ifCond .ne 5, 3, 0, 0, 0)) (k_ne' hc2) ?_
      refine mEnds.stp 1 (pc' := 21) (l' := [some (.ref 10), some (.int x1), some (.int x2), none]) (st' := [.int (-1)]) (fun _ => rfl) ?_
      exact mEnds.rti (Option.some.inj hf) (fun _ => rfl)
    · rw [if_neg hc2] at hf
      refine t_jT (t := 22) (rfl : mfetch 156 17 = some (17, .ifCond .ne 5, 3, 0, 0, 0)) rfl (k_ne hc2) ?_
      refine mEnds.stp 3 (pc' := 27) (l' := [some (.ref 10), some (.int x1), some (.int x2), none]) (st' := [.int (nI 208), .int (nI 0), .ref 10]) (fun _ => rfl) ?_
      obtain ⟨s1, hs1, hf⟩ := ob hf
      refine t_cv (as := [.int (nI 0), .int (nI 208)]) (st := []) (rfl : mfetch 156 27 = some (27, .invokevirtual 201, 3, 152, 0, 0)) rfl rfl rfl rfl rfl ((ok_M_copies hs1).deep 3) ?_
      refine mEnds.stp 2 (pc' := 32) (l' := [some (.ref 10), some (.int x1), some (.int x2), some (.int (nI 0))]) (st' := []) (fun _ => rfl) ?_
      refine mEnds.cut (l := [some (.ref 10), some (.int x1), some (.int x2), some (.int (nI 0))]) ⟨rfl, ⟨rfl, ⟨rfl, ⟨rfl, trivial⟩⟩⟩⟩ ?_
      exact ok_M_cold_32 FU (nI 0) s1 _ hf
def M_again_38 (k10 : Int32 → sg → Option (Int32 × sg)) (x1 : Int32) : Nat → Int32 → Int32 → sg → Option (Int32 × sg)
  | 0, _, _, _ => none
  | fu + 1, x2, x3, s =>
  if x3 < s 10 1 then
    if x2 = 0 then
      M_again_38 k10 x1 fu (nI 0) (x3 + (nI 1)) s
    else
      (midx ((nI 208) + x3) 312).bind fun j1 =>
      (midx x3 312).bind fun j2 =>
      if s 11 j1 = s 11 j2 then
        (midx ((nI 238) + x3) 312).bind fun j3 =>
        (midx ((nI 30) + x3) 312).bind fun j4 =>
        if s 11 j3 = s 11 j4 then
          M_again_38 k10 x1 fu (nI 1) (x3 + (nI 1)) s
        else
          M_again_38 k10 x1 fu (nI 0) (x3 + (nI 1)) s
      else
        M_again_38 k10 x1 fu (nI 0) (x3 + (nI 1)) s
  else
    if x2 = 0 then
      k10 (x1 + (nI 1)) s
    else
      some (x1, s)
set_option maxRecDepth 100000 in
theorem ok_M_again_38 {k10 : Int32 → sg → Option (Int32 × sg)} {x1 : Int32} (hk10 : ∀ (x1 : Int32) (s : sg) (rv : (Int32 × sg)), k10 x1 s = some rv → mEnds [] 4 157 (10, [some (.ref 10), some (.int x1), none, none], [], hp shM s, 0, 0) (some (.int rv.1), hp shM rv.2, 0, 0)) : ∀ (fu : Nat) (x2 : Int32) (x3 : Int32) (s : sg) (rv : (Int32 × sg)), M_again_38 k10 x1 fu x2 x3 s = some rv → mEnds [] 4 157 (38, [some (.ref 10), some (.int x1), some (.int x2), some (.int x3)], [], hp shM s, 0, 0) (some (.int rv.1), hp shM rv.2, 0, 0)
  | 0, _, _, _, _, hf => by cases hf
  | fu + 1, x2, x3, s, rv, hf => by
    rw [M_again_38] at hf
    refine mEnds.stp 2 (pc' := 40) (l' := [some (.ref 10), some (.int x1), some (.int x2), some (.int x3)]) (st' := [.ref 10, .int x3]) (fun _ => rfl) ?_
    refine t_gi (rfl : mfetch 157 40 = some (40, .getfield 139, 3, 5, 1, 0)) rfl rfl ?_
    by_cases hc1 : x3 < s 10 1
    · rw [if_pos hc1] at hf
      refine t_cF (rfl : mfetch 157 43 = some (43, .if_icmp .ge 60, 3, 0, 0, 0)) (k_ge' hc1) ?_
      refine mEnds.stp 1 (pc' := 47) (l' := [some (.ref 10), some (.int x1), some (.int x2), some (.int x3)]) (st' := [.int x2]) (fun _ => rfl) ?_
      by_cases hc3 : x2 = 0
      · rw [if_pos hc3] at hf
        refine t_jT (t := 95) (rfl : mfetch 157 47 = some (47, .ifCond .eq 48, 3, 0, 0, 0)) rfl (k_eq hc3) ?_
        refine mEnds.stp 4 (pc' := 38) (l' := [some (.ref 10), some (.int x1), some (.int (nI 0)), some (.int (x3 + (nI 1)))]) (st' := []) (fun _ => rfl) ?_
        refine mEnds.cut (l := [some (.ref 10), some (.int x1), some (.int (nI 0)), some (.int (x3 + (nI 1)))]) ⟨rfl, ⟨rfl, ⟨rfl, ⟨rfl, trivial⟩⟩⟩⟩ ?_
        exact ok_M_again_38 hk10 fu (nI 0) (x3 + (nI 1)) s _ hf
      · rw [if_neg hc3] at hf
        refine t_jF (rfl : mfetch 157 47 = some (47, .ifCond .eq 48, 3, 0, 0, 0)) (k_eq' hc3) ?_
        refine mEnds.stp 1 (pc' := 51) (l' := [some (.ref 10), some (.int x1), some (.int x2), some (.int x3)]) (st' := [.ref 10]) (fun _ => rfl) ?_
        refine t_gr (rfl : mfetch 157 51 = some (51, .getfield 7, 3, 5, 0, 0)) rfl rfl ?_
        refine mEnds.stp 3 (pc' := 59) (l' := [some (.ref 10), some (.int x1), some (.int x2), some (.int x3)]) (st' := [.int ((nI 208) + x3), .ref 11]) (fun _ => rfl) ?_
        obtain ⟨j1, hj1, hf⟩ := ob hf
        refine t_ia (rfl : mfetch 157 59 = some (59, .iaload, 1, 0, 0, 0)) rfl rfl hj1 ?_
        refine mEnds.stp 1 (pc' := 61) (l' := [some (.ref 10), some (.int x1), some (.int x2), some (.int x3)]) (st' := [.ref 10, .int (s 11 j1)]) (fun _ => rfl) ?_
        refine t_gr (rfl : mfetch 157 61 = some (61, .getfield 7, 3, 5, 0, 0)) rfl rfl ?_
        refine mEnds.stp 1 (pc' := 65) (l' := [some (.ref 10), some (.int x1), some (.int x2), some (.int x3)]) (st' := [.int x3, .ref 11, .int (s 11 j1)]) (fun _ => rfl) ?_
        obtain ⟨j2, hj2, hf⟩ := ob hf
        refine t_ia (rfl : mfetch 157 65 = some (65, .iaload, 1, 0, 0, 0)) rfl rfl hj2 ?_
        by_cases hc4 : s 11 j1 = s 11 j2
        · rw [if_pos hc4] at hf
          refine t_cF (rfl : mfetch 157 66 = some (66, .if_icmp .ne 29, 3, 0, 0, 0)) (k_ne' hc4) ?_
          refine mEnds.stp 1 (pc' := 70) (l' := [some (.ref 10), some (.int x1), some (.int x2), some (.int x3)]) (st' := [.ref 10]) (fun _ => rfl) ?_
          refine t_gr (rfl : mfetch 157 70 = some (70, .getfield 7, 3, 5, 0, 0)) rfl rfl ?_
          refine mEnds.stp 3 (pc' := 78) (l' := [some (.ref 10), some (.int x1), some (.int x2), some (.int x3)]) (st' := [.int ((nI 238) + x3), .ref 11]) (fun _ => rfl) ?_
          obtain ⟨j3, hj3, hf⟩ := ob hf
          refine t_ia (rfl : mfetch 157 78 = some (78, .iaload, 1, 0, 0, 0)) rfl rfl hj3 ?_
          refine mEnds.stp 1 (pc' := 80) (l' := [some (.ref 10), some (.int x1), some (.int x2), some (.int x3)]) (st' := [.ref 10, .int (s 11 j3)]) (fun _ => rfl) ?_
          refine t_gr (rfl : mfetch 157 80 = some (80, .getfield 7, 3, 5, 0, 0)) rfl rfl ?_
          refine mEnds.stp 3 (pc' := 87) (l' := [some (.ref 10), some (.int x1), some (.int x2), some (.int x3)]) (st' := [.int ((nI 30) + x3), .ref 11, .int (s 11 j3)]) (fun _ => rfl) ?_
          obtain ⟨j4, hj4, hf⟩ := ob hf
          refine t_ia (rfl : mfetch 157 87 = some (87, .iaload, 1, 0, 0, 0)) rfl rfl hj4 ?_
          by_cases hc5 : s 11 j3 = s 11 j4
          · rw [if_pos hc5] at hf
            refine t_cF (rfl : mfetch 157 88 = some (88, .if_icmp .ne 7, 3, 0, 0, 0)) (k_ne' hc5) ?_
            refine mEnds.stp 5 (pc' := 38) (l' := [some (.ref 10), some (.int x1), some (.int (nI 1)), some (.int (x3 + (nI 1)))]) (st' := []) (fun _ => rfl) ?_
            refine mEnds.cut (l := [some (.ref 10), some (.int x1), some (.int (nI 1)), some (.int (x3 + (nI 1)))]) ⟨rfl, ⟨rfl, ⟨rfl, ⟨rfl, trivial⟩⟩⟩⟩ ?_
            exact ok_M_again_38 hk10 fu (nI 1) (x3 + (nI 1)) s _ hf
          · rw [if_neg hc5] at hf
            refine t_cT (t := 95) (rfl : mfetch 157 88 = some (88, .if_icmp .ne 7, 3, 0, 0, 0)) rfl (k_ne hc5) ?_
            refine mEnds.stp 4 (pc' := 38) (l' := [some (.ref 10), some (.int x1), some (.int (nI 0)), some (.int (x3 + (nI 1)))]) (st' := []) (fun _ => rfl) ?_
            refine mEnds.cut (l := [some (.ref 10), some (.int x1), some (.int (nI 0)), some (.int (x3 + (nI 1)))]) ⟨rfl, ⟨rfl, ⟨rfl, ⟨rfl, trivial⟩⟩⟩⟩ ?_
            exact ok_M_again_38 hk10 fu (nI 0) (x3 + (nI 1)) s _ hf
        · rw [if_neg hc4] at hf
          refine t_cT (t := 95) (rfl : mfetch 157 66 = some (66, .if_icmp .ne 29, 3, 0, 0, 0)) rfl (k_ne hc4) ?_
          refine mEnds.stp 4 (pc' := 38) (l' := [some (.ref 10), some (.int x1), some (.int (nI 0)), some (.int (x3 + (nI 1)))]) (st' := []) (fun _ => rfl) ?_
          refine mEnds.cut (l := [some (.ref 10), some (.int x1), some (.int (nI 0)), some (.int (x3 + (nI 1)))]) ⟨rfl, ⟨rfl, ⟨rfl, ⟨rfl, trivial⟩⟩⟩⟩ ?_
          exact ok_M_again_38 hk10 fu (nI 0) (x3 + (nI 1)) s _ hf
    · rw [if_neg hc1] at hf
      refine t_cT (t := 103) (rfl : mfetch 157 43 = some (43, .if_icmp .ge 60, 3, 0, 0, 0)) rfl (k_ge hc1) ?_
      refine mEnds.stp 1 (pc' := 104) (l' := [some (.ref 10), some (.int x1), some (.int x2), some (.int x3)]) (st' := [.int x2]) (fun _ => rfl) ?_
      by_cases hc2 : x2 = 0
      · rw [if_pos hc2] at hf
        refine t_jT (t := 109) (rfl : mfetch 157 104 = some (104, .ifCond .eq 5, 3, 0, 0, 0)) rfl (k_eq hc2) ?_
        refine mEnds.stp 2 (pc' := 10) (l' := [some (.ref 10), some (.int (x1 + (nI 1))), some (.int x2), some (.int x3)]) (st' := []) (fun _ => rfl) ?_
        refine mEnds.cut (l := [some (.ref 10), some (.int (x1 + (nI 1))), none, none]) ⟨rfl, ⟨rfl, trivial⟩⟩ ?_
        exact hk10 (x1 + (nI 1)) s _ hf
      · rw [if_neg hc2] at hf
        refine t_jF (rfl : mfetch 157 104 = some (104, .ifCond .eq 5, 3, 0, 0, 0)) (k_eq' hc2) ?_
        refine mEnds.stp 1 (pc' := 108) (l' := [some (.ref 10), some (.int x1), some (.int x2), some (.int x3)]) (st' := [.int x1]) (fun _ => rfl) ?_
        exact mEnds.rti (Option.some.inj hf) (fun _ => rfl)
def M_again_10 : Nat → Int32 → sg → Option (Int32 × sg)
  | 0, _, _ => none
  | fu + 1, x1, s =>
  if nI 56 < x1 then
    some ((-4), s)
  else
    (M_goesOn (nI 208) s).bind fun s1 =>
    if x1 - x1 / (nI 8) * (nI 8) = 0 then
      M_again_38 (M_again_10 fu) x1 FU (nI 1) (nI 0) s1
    else
      M_again_38 (M_again_10 fu) x1 FU (nI 0) (nI 0) s1
set_option maxRecDepth 100000 in
theorem ok_M_again_10 : ∀ (fu : Nat) (x1 : Int32) (s : sg) (rv : (Int32 × sg)), M_again_10 fu x1 s = some rv → mEnds [] 4 157 (10, [some (.ref 10), some (.int x1), none, none], [], hp shM s, 0, 0) (some (.int rv.1), hp shM rv.2, 0, 0)
  | 0, _, _, _, hf => by cases hf
  | fu + 1, x1, s, rv, hf => by
    rw [M_again_10] at hf
    refine mEnds.stp 2 (pc' := 13) (l' := [some (.ref 10), some (.int x1), none, none]) (st' := [.int (nI 56), .int x1]) (fun _ => rfl) ?_
    by_cases hc1 : nI 56 < x1
    · rw [if_pos hc1] at hf
      refine t_cT (t := 115) (rfl : mfetch 157 13 = some (13, .if_icmp .gt 102, 3, 0, 0, 0)) rfl (k_gt hc1) ?_
      refine mEnds.stp 1 (pc' := 117) (l' := [some (.ref 10), some (.int x1), none, none]) (st' := [.int (-4)]) (fun _ => rfl) ?_
      exact mEnds.rti (Option.some.inj hf) (fun _ => rfl)
    · rw [if_neg hc1] at hf
      refine t_cF (rfl : mfetch 157 13 = some (13, .if_icmp .gt 102, 3, 0, 0, 0)) (k_gt' hc1) ?_
      refine mEnds.stp 2 (pc' := 20) (l' := [some (.ref 10), some (.int x1), none, none]) (st' := [.int (nI 208), .ref 10]) (fun _ => rfl) ?_
      obtain ⟨s1, hs1, hf⟩ := ob hf
      refine t_cv (as := [.int (nI 208)]) (st := []) (rfl : mfetch 157 20 = some (20, .invokevirtual 198, 3, 134, 0, 0)) rfl rfl rfl rfl rfl (ok_M_goesOn hs1) ?_
      refine mEnds.stp 3 (pc' := 27) (l' := [some (.ref 10), some (.int x1), none, none]) (st' := [.int (x1 - x1 / (nI 8) * (nI 8))]) (fun _ => rfl) ?_
      by_cases hc2 : x1 - x1 / (nI 8) * (nI 8) = 0
      · rw [if_pos hc2] at hf
        refine t_jF (rfl : mfetch 157 27 = some (27, .ifCond .ne 7, 3, 0, 0, 0)) (k_ne' hc2) ?_
        refine mEnds.stp 5 (pc' := 38) (l' := [some (.ref 10), some (.int x1), some (.int (nI 1)), some (.int (nI 0))]) (st' := []) (fun _ => rfl) ?_
        refine mEnds.cut (l := [some (.ref 10), some (.int x1), some (.int (nI 1)), some (.int (nI 0))]) ⟨rfl, ⟨rfl, ⟨rfl, ⟨rfl, trivial⟩⟩⟩⟩ ?_
        exact ok_M_again_38 (ok_M_again_10 fu) FU (nI 1) (nI 0) s1 _ hf
      · rw [if_neg hc2] at hf
        refine t_jT (t := 34) (rfl : mfetch 157 27 = some (27, .ifCond .ne 7, 3, 0, 0, 0)) rfl (k_ne hc2) ?_
        refine mEnds.stp 4 (pc' := 38) (l' := [some (.ref 10), some (.int x1), some (.int (nI 0)), some (.int (nI 0))]) (st' := []) (fun _ => rfl) ?_
        refine mEnds.cut (l := [some (.ref 10), some (.int x1), some (.int (nI 0)), some (.int (nI 0))]) ⟨rfl, ⟨rfl, ⟨rfl, ⟨rfl, trivial⟩⟩⟩⟩ ?_
        exact ok_M_again_38 (ok_M_again_10 fu) FU (nI 0) (nI 0) s1 _ hf
def M_again (s : sg) : Option (Int32 × sg) :=
  (M_copies (nI 0) (nI 208) s).bind fun s1 =>
  M_again_10 FU (nI 1) s1
set_option maxRecDepth 100000 in
theorem ok_M_again {s : sg} {rv : (Int32 × sg)} (hf : M_again s = some rv) : mEnds [] 4 157 (0, [some (.ref 10), none, none, none], [], hp shM s, 0, 0) (some (.int rv.1), hp shM rv.2, 0, 0) := by
  unfold M_again at hf
  refine mEnds.stp 3 (pc' := 5) (l' := [some (.ref 10), none, none, none]) (st' := [.int (nI 208), .int (nI 0), .ref 10]) (fun _ => rfl) ?_
  obtain ⟨s1, hs1, hf⟩ := ob hf
  refine t_cv (as := [.int (nI 0), .int (nI 208)]) (st := []) (rfl : mfetch 157 5 = some (5, .invokevirtual 201, 3, 152, 0, 0)) rfl rfl rfl rfl rfl ((ok_M_copies hs1).deep 3) ?_
  refine mEnds.stp 2 (pc' := 10) (l' := [some (.ref 10), some (.int (nI 1)), none, none]) (st' := []) (fun _ => rfl) ?_
  refine mEnds.cut (l := [some (.ref 10), some (.int (nI 1)), none, none]) ⟨rfl, ⟨rfl, trivial⟩⟩ ?_
  exact ok_M_again_10 FU (nI 1) s1 _ hf
def M_keepsWarm_11 (x2 : Int32) (x3 : Int32) (x4 : Int32) : Nat → Int32 → sg → Option (Int32 × sg)
  | 0, _, _ => none
  | fu + 1, x5, s =>
  if x5 < x3 then
    (M_goesOn (nI 208) s).bind fun s1 =>
    (midx ((nI 208) + x2) 312).bind fun j1 =>
    if s1 11 j1 < x4 then
      some (nI 0, s1)
    else
      M_keepsWarm_11 x2 x3 x4 fu (x5 + (nI 1)) s1
  else
    some (nI 1, s)
set_option maxRecDepth 100000 in
theorem ok_M_keepsWarm_11 {x2 : Int32} {x3 : Int32} {x4 : Int32} : ∀ (fu : Nat) (x5 : Int32) (s : sg) (rv : (Int32 × sg)), M_keepsWarm_11 x2 x3 x4 fu x5 s = some rv → mEnds [] 4 158 (11, [some (.ref 10), none, some (.int x2), some (.int x3), some (.int x4), some (.int x5)], [], hp shM s, 0, 0) (some (.int rv.1), hp shM rv.2, 0, 0)
  | 0, _, _, _, hf => by cases hf
  | fu + 1, x5, s, rv, hf => by
    rw [M_keepsWarm_11] at hf
    refine mEnds.stp 2 (pc' := 14) (l' := [some (.ref 10), none, some (.int x2), some (.int x3), some (.int x4), some (.int x5)]) (st' := [.int x3, .int x5]) (fun _ => rfl) ?_
    by_cases hc1 : x5 < x3
    · rw [if_pos hc1] at hf
      refine t_cF (rfl : mfetch 158 14 = some (14, .if_icmp .ge 33, 3, 0, 0, 0)) (k_ge' hc1) ?_
      refine mEnds.stp 2 (pc' := 21) (l' := [some (.ref 10), none, some (.int x2), some (.int x3), some (.int x4), some (.int x5)]) (st' := [.int (nI 208), .ref 10]) (fun _ => rfl) ?_
      obtain ⟨s1, hs1, hf⟩ := ob hf
      refine t_cv (as := [.int (nI 208)]) (st := []) (rfl : mfetch 158 21 = some (21, .invokevirtual 198, 3, 134, 0, 0)) rfl rfl rfl rfl rfl (ok_M_goesOn hs1) ?_
      refine mEnds.stp 1 (pc' := 25) (l' := [some (.ref 10), none, some (.int x2), some (.int x3), some (.int x4), some (.int x5)]) (st' := [.ref 10]) (fun _ => rfl) ?_
      refine t_gr (rfl : mfetch 158 25 = some (25, .getfield 7, 3, 5, 0, 0)) rfl rfl ?_
      refine mEnds.stp 3 (pc' := 33) (l' := [some (.ref 10), none, some (.int x2), some (.int x3), some (.int x4), some (.int x5)]) (st' := [.int ((nI 208) + x2), .ref 11]) (fun _ => rfl) ?_
      obtain ⟨j1, hj1, hf⟩ := ob hf
      refine t_ia (rfl : mfetch 158 33 = some (33, .iaload, 1, 0, 0, 0)) rfl rfl hj1 ?_
      refine mEnds.stp 1 (pc' := 36) (l' := [some (.ref 10), none, some (.int x2), some (.int x3), some (.int x4), some (.int x5)]) (st' := [.int x4, .int (s1 11 j1)]) (fun _ => rfl) ?_
      by_cases hc2 : s1 11 j1 < x4
      · rw [if_pos hc2] at hf
        refine t_cF (rfl : mfetch 158 36 = some (36, .if_icmp .ge 5, 3, 0, 0, 0)) (k_ge' hc2) ?_
        refine mEnds.stp 1 (pc' := 40) (l' := [some (.ref 10), none, some (.int x2), some (.int x3), some (.int x4), some (.int x5)]) (st' := [.int (nI 0)]) (fun _ => rfl) ?_
        exact mEnds.rti (Option.some.inj hf) (fun _ => rfl)
      · rw [if_neg hc2] at hf
        refine t_cT (t := 41) (rfl : mfetch 158 36 = some (36, .if_icmp .ge 5, 3, 0, 0, 0)) rfl (k_ge hc2) ?_
        refine mEnds.stp 2 (pc' := 11) (l' := [some (.ref 10), none, some (.int x2), some (.int x3), some (.int x4), some (.int (x5 + (nI 1)))]) (st' := []) (fun _ => rfl) ?_
        refine mEnds.cut (l := [some (.ref 10), none, some (.int x2), some (.int x3), some (.int x4), some (.int (x5 + (nI 1)))]) ⟨rfl, ⟨rfl, ⟨rfl, ⟨rfl, ⟨rfl, trivial⟩⟩⟩⟩⟩ ?_
        exact ok_M_keepsWarm_11 fu (x5 + (nI 1)) s1 _ hf
    · rw [if_neg hc1] at hf
      refine t_cT (t := 47) (rfl : mfetch 158 14 = some (14, .if_icmp .ge 33, 3, 0, 0, 0)) rfl (k_ge hc1) ?_
      refine mEnds.stp 1 (pc' := 48) (l' := [some (.ref 10), none, some (.int x2), some (.int x3), some (.int x4), some (.int x5)]) (st' := [.int (nI 1)]) (fun _ => rfl) ?_
      exact mEnds.rti (Option.some.inj hf) (fun _ => rfl)
def M_keepsWarm (x1 : Int32) (x2 : Int32) (x3 : Int32) (x4 : Int32) (s : sg) : Option (Int32 × sg) :=
  (M_copies x1 (nI 208) s).bind fun s1 =>
  M_keepsWarm_11 x2 x3 x4 FU (nI 0) s1
set_option maxRecDepth 100000 in
theorem ok_M_keepsWarm {x1 : Int32} {x2 : Int32} {x3 : Int32} {x4 : Int32} {s : sg} {rv : (Int32 × sg)} (hf : M_keepsWarm x1 x2 x3 x4 s = some rv) : mEnds [] 4 158 (0, [some (.ref 10), some (.int x1), some (.int x2), some (.int x3), some (.int x4), none], [], hp shM s, 0, 0) (some (.int rv.1), hp shM rv.2, 0, 0) := by
  unfold M_keepsWarm at hf
  refine mEnds.stp 3 (pc' := 5) (l' := [some (.ref 10), some (.int x1), some (.int x2), some (.int x3), some (.int x4), none]) (st' := [.int (nI 208), .int x1, .ref 10]) (fun _ => rfl) ?_
  obtain ⟨s1, hs1, hf⟩ := ob hf
  refine t_cv (as := [.int x1, .int (nI 208)]) (st := []) (rfl : mfetch 158 5 = some (5, .invokevirtual 201, 3, 152, 0, 0)) rfl rfl rfl rfl rfl ((ok_M_copies hs1).deep 3) ?_
  refine mEnds.stp 2 (pc' := 11) (l' := [some (.ref 10), some (.int x1), some (.int x2), some (.int x3), some (.int x4), some (.int (nI 0))]) (st' := []) (fun _ => rfl) ?_
  refine mEnds.cut (l := [some (.ref 10), none, some (.int x2), some (.int x3), some (.int x4), some (.int (nI 0))]) ⟨rfl, ⟨rfl, ⟨rfl, ⟨rfl, ⟨rfl, trivial⟩⟩⟩⟩⟩ ?_
  exact ok_M_keepsWarm_11 FU (nI 0) s1 _ hf
def M_need_56 (x1 : Int32) (x2 : Int32) (x3 : Int32) : Nat → Int32 → sg → Option (Int32 × sg)
  | 0, _, _ => none
  | fu + 1, x4, s =>
  if nI 99 < x4 then
    some ((-4), s)
  else
    (midx ((nI 284) + x1) 312).bind fun j1 =>
    (some (up s 11 j1 x4)).bind fun s1 =>
    (M_keepsWarm (nI 260) x1 x2 x3 s1).bind fun v1 =>
    if v1.1 = 0 then
      M_need_56 x1 x2 x3 fu (x4 + (nI 1)) v1.2
    else
      some (x4, v1.2)
set_option maxRecDepth 100000 in
theorem ok_M_need_56 {x1 : Int32} {x2 : Int32} {x3 : Int32} : ∀ (fu : Nat) (x4 : Int32) (s : sg) (rv : (Int32 × sg)), M_need_56 x1 x2 x3 fu x4 s = some rv → mEnds [] 5 159 (56, [some (.ref 10), some (.int x1), some (.int x2), some (.int x3), some (.int x4)], [], hp shM s, 0, 0) (some (.int rv.1), hp shM rv.2, 0, 0)
  | 0, _, _, _, hf => by cases hf
  | fu + 1, x4, s, rv, hf => by
    rw [M_need_56] at hf
    refine mEnds.stp 2 (pc' := 60) (l' := [some (.ref 10), some (.int x1), some (.int x2), some (.int x3), some (.int x4)]) (st' := [.int (nI 99), .int x4]) (fun _ => rfl) ?_
    by_cases hc1 : nI 99 < x4
    · rw [if_pos hc1] at hf
      refine t_cT (t := 97) (rfl : mfetch 159 60 = some (60, .if_icmp .gt 37, 3, 0, 0, 0)) rfl (k_gt hc1) ?_
      refine mEnds.stp 1 (pc' := 99) (l' := [some (.ref 10), some (.int x1), some (.int x2), some (.int x3), some (.int x4)]) (st' := [.int (-4)]) (fun _ => rfl) ?_
      exact mEnds.rti (Option.some.inj hf) (fun _ => rfl)
    · rw [if_neg hc1] at hf
      refine t_cF (rfl : mfetch 159 60 = some (60, .if_icmp .gt 37, 3, 0, 0, 0)) (k_gt' hc1) ?_
      refine mEnds.stp 1 (pc' := 64) (l' := [some (.ref 10), some (.int x1), some (.int x2), some (.int x3), some (.int x4)]) (st' := [.ref 10]) (fun _ => rfl) ?_
      refine t_gr (rfl : mfetch 159 64 = some (64, .getfield 7, 3, 5, 0, 0)) rfl rfl ?_
      refine mEnds.stp 4 (pc' := 74) (l' := [some (.ref 10), some (.int x1), some (.int x2), some (.int x3), some (.int x4)]) (st' := [.int x4, .int ((nI 284) + x1), .ref 11]) (fun _ => rfl) ?_
      obtain ⟨j1, hj1, hf⟩ := ob hf
      obtain ⟨s1, hs1, hf⟩ := ob hf
      refine t_is (rfl : mfetch 159 74 = some (74, .iastore, 1, 0, 0, 0)) rfl rfl hj1 hs1 ?_
      refine mEnds.stp 5 (pc' := 82) (l' := [some (.ref 10), some (.int x1), some (.int x2), some (.int x3), some (.int x4)]) (st' := [.int x3, .int x2, .int x1, .int (nI 260), .ref 10]) (fun _ => rfl) ?_
      obtain ⟨v1, hv1, hf⟩ := ob hf
      refine t_cv (as := [.int (nI 260), .int x1, .int x2, .int x3]) (st := []) (rfl : mfetch 159 82 = some (82, .invokevirtual 218, 3, 158, 0, 0)) rfl rfl rfl rfl rfl (ok_M_keepsWarm hv1) ?_
      by_cases hc2 : v1.1 = 0
      · rw [if_pos hc2] at hf
        refine t_jT (t := 91) (rfl : mfetch 159 85 = some (85, .ifCond .eq 6, 3, 0, 0, 0)) rfl (k_eq hc2) ?_
        refine mEnds.stp 2 (pc' := 56) (l' := [some (.ref 10), some (.int x1), some (.int x2), some (.int x3), some (.int (x4 + (nI 1)))]) (st' := []) (fun _ => rfl) ?_
        refine mEnds.cut (l := [some (.ref 10), some (.int x1), some (.int x2), some (.int x3), some (.int (x4 + (nI 1)))]) ⟨rfl, ⟨rfl, ⟨rfl, ⟨rfl, ⟨rfl, trivial⟩⟩⟩⟩⟩ ?_
        exact ok_M_need_56 fu (x4 + (nI 1)) v1.2 _ hf
      · rw [if_neg hc2] at hf
        refine t_jF (rfl : mfetch 159 85 = some (85, .ifCond .eq 6, 3, 0, 0, 0)) (k_eq' hc2) ?_
        refine mEnds.stp 1 (pc' := 90) (l' := [some (.ref 10), some (.int x1), some (.int x2), some (.int x3), some (.int x4)]) (st' := [.int x4]) (fun _ => rfl) ?_
        exact mEnds.rti (Option.some.inj hf) (fun _ => rfl)
def M_need (x1 : Int32) (x2 : Int32) (x3 : Int32) (s : sg) : Option (Int32 × sg) :=
  (M_isRoom x1 s).bind fun v1 =>
  if v1 = 0 then
    some ((-1), s)
  else
    (M_in x2.toInt64 (1 : Int64) (60 : Int64) s).bind fun v2 =>
    if v2 = 0 then
      some ((-1), s)
    else
      (M_in x3.toInt64 (0 : Int64) (99 : Int64) s).bind fun v3 =>
      if v3 = 0 then
        some ((-1), s)
      else
        (M_hasTongue x1 s).bind fun v4 =>
        if v4 = 0 then
          some ((-2), s)
        else
          (M_copies (nI 0) (nI 260) s).bind fun s1 =>
          M_need_56 x1 x2 x3 FU (nI 0) s1
set_option maxRecDepth 100000 in
theorem ok_M_need {x1 : Int32} {x2 : Int32} {x3 : Int32} {s : sg} {rv : (Int32 × sg)} (hf : M_need x1 x2 x3 s = some rv) : mEnds [] 5 159 (0, [some (.ref 10), some (.int x1), some (.int x2), some (.int x3), none], [], hp shM s, 0, 0) (some (.int rv.1), hp shM rv.2, 0, 0) := by
  unfold M_need at hf
  refine mEnds.stp 2 (pc' := 2) (l' := [some (.ref 10), some (.int x1), some (.int x2), some (.int x3), none]) (st' := [.int x1, .ref 10]) (fun _ => rfl) ?_
  obtain ⟨v1, hv1, hf⟩ := ob hf
  refine t_cv (as := [.int x1]) (st := []) (rfl : mfetch 159 2 = some (2, .invokevirtual 167, 3, 126, 0, 0)) rfl rfl rfl rfl rfl ((ok_M_isRoom hv1).deep 3) ?_
  by_cases hc1 : v1 = 0
  · rw [if_pos hc1] at hf
    refine t_jT (t := 32) (rfl : mfetch 159 5 = some (5, .ifCond .eq 27, 3, 0, 0, 0)) rfl (k_eq hc1) ?_
    refine mEnds.stp 1 (pc' := 33) (l' := [some (.ref 10), some (.int x1), some (.int x2), some (.int x3), none]) (st' := [.int (-1)]) (fun _ => rfl) ?_
    exact mEnds.rti (Option.some.inj hf) (fun _ => rfl)
  · rw [if_neg hc1] at hf
    refine t_jF (rfl : mfetch 159 5 = some (5, .ifCond .eq 27, 3, 0, 0, 0)) (k_eq' hc1) ?_
    refine mEnds.stp 4 (pc' := 14) (l' := [some (.ref 10), some (.int x1), some (.int x2), some (.int x3), none]) (st' := [.long (60 : Int64), .long (1 : Int64), .long x2.toInt64]) (fun _ => rfl) ?_
    obtain ⟨v2, hv2, hf⟩ := ob hf
    refine t_cs (as := [.long x2.toInt64, .long (1 : Int64), .long (60 : Int64)]) (st := []) (Or.inl rfl) (rfl : mfetch 159 14 = some (14, .invokestatic 49, 3, 111, 0, 0)) rfl rfl rfl ((ok_M_in hv2).deep 4) ?_
    by_cases hc2 : v2 = 0
    · rw [if_pos hc2] at hf
      refine t_jT (t := 32) (rfl : mfetch 159 17 = some (17, .ifCond .eq 15, 3, 0, 0, 0)) rfl (k_eq hc2) ?_
      refine mEnds.stp 1 (pc' := 33) (l' := [some (.ref 10), some (.int x1), some (.int x2), some (.int x3), none]) (st' := [.int (-1)]) (fun _ => rfl) ?_
      exact mEnds.rti (Option.some.inj hf) (fun _ => rfl)
    · rw [if_neg hc2] at hf
      refine t_jF (rfl : mfetch 159 17 = some (17, .ifCond .eq 15, 3, 0, 0, 0)) (k_eq' hc2) ?_
      refine mEnds.stp 4 (pc' := 26) (l' := [some (.ref 10), some (.int x1), some (.int x2), some (.int x3), none]) (st' := [.long (99 : Int64), .long (0 : Int64), .long x3.toInt64]) (fun _ => rfl) ?_
      obtain ⟨v3, hv3, hf⟩ := ob hf
      refine t_cs (as := [.long x3.toInt64, .long (0 : Int64), .long (99 : Int64)]) (st := []) (Or.inl rfl) (rfl : mfetch 159 26 = some (26, .invokestatic 49, 3, 111, 0, 0)) rfl rfl rfl ((ok_M_in hv3).deep 4) ?_
      by_cases hc3 : v3 = 0
      · rw [if_pos hc3] at hf
        refine t_jF (rfl : mfetch 159 29 = some (29, .ifCond .ne 5, 3, 0, 0, 0)) (k_ne' hc3) ?_
        refine mEnds.stp 1 (pc' := 33) (l' := [some (.ref 10), some (.int x1), some (.int x2), some (.int x3), none]) (st' := [.int (-1)]) (fun _ => rfl) ?_
        exact mEnds.rti (Option.some.inj hf) (fun _ => rfl)
      · rw [if_neg hc3] at hf
        refine t_jT (t := 34) (rfl : mfetch 159 29 = some (29, .ifCond .ne 5, 3, 0, 0, 0)) rfl (k_ne hc3) ?_
        refine mEnds.stp 2 (pc' := 36) (l' := [some (.ref 10), some (.int x1), some (.int x2), some (.int x3), none]) (st' := [.int x1, .ref 10]) (fun _ => rfl) ?_
        obtain ⟨v4, hv4, hf⟩ := ob hf
        refine t_cv (as := [.int x1]) (st := []) (rfl : mfetch 159 36 = some (36, .invokevirtual 173, 3, 128, 0, 0)) rfl rfl rfl rfl rfl ((ok_M_hasTongue hv4).deep 4) ?_
        by_cases hc4 : v4 = 0
        · rw [if_pos hc4] at hf
          refine t_jF (rfl : mfetch 159 39 = some (39, .ifCond .ne 6, 3, 0, 0, 0)) (k_ne' hc4) ?_
          refine mEnds.stp 1 (pc' := 44) (l' := [some (.ref 10), some (.int x1), some (.int x2), some (.int x3), none]) (st' := [.int (-2)]) (fun _ => rfl) ?_
          exact mEnds.rti (Option.some.inj hf) (fun _ => rfl)
        · rw [if_neg hc4] at hf
          refine t_jT (t := 45) (rfl : mfetch 159 39 = some (39, .ifCond .ne 6, 3, 0, 0, 0)) rfl (k_ne hc4) ?_
          refine mEnds.stp 3 (pc' := 50) (l' := [some (.ref 10), some (.int x1), some (.int x2), some (.int x3), none]) (st' := [.int (nI 260), .int (nI 0), .ref 10]) (fun _ => rfl) ?_
          obtain ⟨s1, hs1, hf⟩ := ob hf
          refine t_cv (as := [.int (nI 0), .int (nI 260)]) (st := []) (rfl : mfetch 159 50 = some (50, .invokevirtual 201, 3, 152, 0, 0)) rfl rfl rfl rfl rfl ((ok_M_copies hs1).deep 4) ?_
          refine mEnds.stp 2 (pc' := 56) (l' := [some (.ref 10), some (.int x1), some (.int x2), some (.int x3), some (.int (nI 0))]) (st' := []) (fun _ => rfl) ?_
          refine mEnds.cut (l := [some (.ref 10), some (.int x1), some (.int x2), some (.int x3), some (.int (nI 0))]) ⟨rfl, ⟨rfl, ⟨rfl, ⟨rfl, ⟨rfl, trivial⟩⟩⟩⟩⟩ ?_
          exact ok_M_need_56 FU (nI 0) s1 _ hf
def M_kind_105 (k61 : Int32 → Int32 → Int32 → sg → Option (Int32 × sg)) (x1 : Int32) (x2 : Int32) (x3 : Int32) (x4 : Int32) (x6 : Int32) (x7 : Int32) (y0 : Int32) (s : sg) : Option (Int32 × sg) :=
  if x7 < x4 then
    k61 x7 y0 (x6 + (nI 1)) s
  else
    k61 x4 y0 (x6 + (nI 1)) s
set_option maxRecDepth 100000 in
theorem ok_M_kind_105 {k61 : Int32 → Int32 → Int32 → sg → Option (Int32 × sg)} {x1 : Int32} {x2 : Int32} {x3 : Int32} {x4 : Int32} {x6 : Int32} {x7 : Int32} {y0 : Int32} {s : sg} {rv : (Int32 × sg)} (hk61 : ∀ (x4 : Int32) (x5 : Int32) (x6 : Int32) (s : sg) (rv : (Int32 × sg)), k61 x4 x5 x6 s = some rv → mEnds [] 5 160 (61, [some (.ref 10), some (.int x1), some (.int x2), some (.int x3), some (.int x4), some (.int x5), some (.int x6), none], [], hp shM s, 0, 0) (some (.int rv.1), hp shM rv.2, 0, 0)) (hf : M_kind_105 k61 x1 x2 x3 x4 x6 x7 y0 s = some rv) : mEnds [] 5 160 (105, [some (.ref 10), some (.int x1), some (.int x2), some (.int x3), some (.int x4), none, some (.int x6), some (.int x7)], [.int y0], hp shM s, 0, 0) (some (.int rv.1), hp shM rv.2, 0, 0) := by
  unfold M_kind_105 at hf
  refine mEnds.stp 3 (pc' := 111) (l' := [some (.ref 10), some (.int x1), some (.int x2), some (.int x3), some (.int x4), some (.int y0), some (.int x6), some (.int x7)]) (st' := [.int x4, .int x7]) (fun _ => rfl) ?_
  by_cases hc1 : x7 < x4
  · rw [if_pos hc1] at hf
    refine t_cF (rfl : mfetch 160 111 = some (111, .if_icmp .ge 8, 3, 0, 0, 0)) (k_ge' hc1) ?_
    refine mEnds.stp 5 (pc' := 61) (l' := [some (.ref 10), some (.int x1), some (.int x2), some (.int x3), some (.int x7), some (.int y0), some (.int (x6 + (nI 1))), some (.int x7)]) (st' := []) (fun _ => rfl) ?_
    refine mEnds.cut (l := [some (.ref 10), some (.int x1), some (.int x2), some (.int x3), some (.int x7), some (.int y0), some (.int (x6 + (nI 1))), none]) ⟨rfl, ⟨rfl, ⟨rfl, ⟨rfl, ⟨rfl, ⟨rfl, ⟨rfl, trivial⟩⟩⟩⟩⟩⟩⟩ ?_
    exact hk61 x7 y0 (x6 + (nI 1)) s _ hf
  · rw [if_neg hc1] at hf
    refine t_cT (t := 119) (rfl : mfetch 160 111 = some (111, .if_icmp .ge 8, 3, 0, 0, 0)) rfl (k_ge hc1) ?_
    refine mEnds.stp 4 (pc' := 61) (l' := [some (.ref 10), some (.int x1), some (.int x2), some (.int x3), some (.int x4), some (.int y0), some (.int (x6 + (nI 1))), some (.int x7)]) (st' := []) (fun _ => rfl) ?_
    refine mEnds.cut (l := [some (.ref 10), some (.int x1), some (.int x2), some (.int x3), some (.int x4), some (.int y0), some (.int (x6 + (nI 1))), none]) ⟨rfl, ⟨rfl, ⟨rfl, ⟨rfl, ⟨rfl, ⟨rfl, ⟨rfl, trivial⟩⟩⟩⟩⟩⟩⟩ ?_
    exact hk61 x4 y0 (x6 + (nI 1)) s _ hf
def M_kind_61 (x1 : Int32) (x2 : Int32) (x3 : Int32) : Nat → Int32 → Int32 → Int32 → sg → Option (Int32 × sg)
  | 0, _, _, _, _ => none
  | fu + 1, x4, x5, x6, s =>
  if x6 < nI 4 then
    (midx ((nI 278) + x1) 312).bind fun j1 =>
    (some (up s 11 j1 (x6 + (nI 1)))).bind fun s1 =>
    (M_hoursGo (nI 260) x2 s1).bind fun v1 =>
    if v1.1 < x4 then
      M_kind_105 (M_kind_61 x1 x2 x3 fu) x1 x2 x3 x4 x6 v1.1 x6 v1.2
    else
      M_kind_105 (M_kind_61 x1 x2 x3 fu) x1 x2 x3 x4 x6 v1.1 x5 v1.2
  else
    if x3 = 0 then
      some (x5, s)
    else
      some (x4, s)
set_option maxRecDepth 100000 in
theorem ok_M_kind_61 {x1 : Int32} {x2 : Int32} {x3 : Int32} : ∀ (fu : Nat) (x4 : Int32) (x5 : Int32) (x6 : Int32) (s : sg) (rv : (Int32 × sg)), M_kind_61 x1 x2 x3 fu x4 x5 x6 s = some rv → mEnds [] 5 160 (61, [some (.ref 10), some (.int x1), some (.int x2), some (.int x3), some (.int x4), some (.int x5), some (.int x6), none], [], hp shM s, 0, 0) (some (.int rv.1), hp shM rv.2, 0, 0)
  | 0, _, _, _, _, _, hf => by cases hf
  | fu + 1, x4, x5, x6, s, rv, hf => by
    rw [M_kind_61] at hf
    refine mEnds.stp 2 (pc' := 64) (l' := [some (.ref 10), some (.int x1), some (.int x2), some (.int x3), some (.int x4), some (.int x5), some (.int x6), none]) (st' := [.int (nI 4), .int x6]) (fun _ => rfl) ?_
    by_cases hc1 : x6 < nI 4
    · rw [if_pos hc1] at hf
      refine t_cF (rfl : mfetch 160 64 = some (64, .if_icmp .ge 65, 3, 0, 0, 0)) (k_ge' hc1) ?_
      refine mEnds.stp 1 (pc' := 68) (l' := [some (.ref 10), some (.int x1), some (.int x2), some (.int x3), some (.int x4), some (.int x5), some (.int x6), none]) (st' := [.ref 10]) (fun _ => rfl) ?_
      refine t_gr (rfl : mfetch 160 68 = some (68, .getfield 7, 3, 5, 0, 0)) rfl rfl ?_
      refine mEnds.stp 6 (pc' := 80) (l' := [some (.ref 10), some (.int x1), some (.int x2), some (.int x3), some (.int x4), some (.int x5), some (.int x6), none]) (st' := [.int (x6 + (nI 1)), .int ((nI 278) + x1), .ref 11]) (fun _ => rfl) ?_
      obtain ⟨j1, hj1, hf⟩ := ob hf
      obtain ⟨s1, hs1, hf⟩ := ob hf
      refine t_is (rfl : mfetch 160 80 = some (80, .iastore, 1, 0, 0, 0)) rfl rfl hj1 hs1 ?_
      refine mEnds.stp 3 (pc' := 86) (l' := [some (.ref 10), some (.int x1), some (.int x2), some (.int x3), some (.int x4), some (.int x5), some (.int x6), none]) (st' := [.int x2, .int (nI 260), .ref 10]) (fun _ => rfl) ?_
      obtain ⟨v1, hv1, hf⟩ := ob hf
      refine t_cv (as := [.int (nI 260), .int x2]) (st := []) (rfl : mfetch 160 86 = some (86, .invokevirtual 215, 3, 153, 0, 0)) rfl rfl rfl rfl rfl (ok_M_hoursGo hv1) ?_
      refine mEnds.stp 3 (pc' := 95) (l' := [some (.ref 10), some (.int x1), some (.int x2), some (.int x3), some (.int x4), some (.int x5), some (.int x6), some (.int v1.1)]) (st' := [.int x4, .int v1.1]) (fun _ => rfl) ?_
      by_cases hc3 : v1.1 < x4
      · rw [if_pos hc3] at hf
        refine t_cF (rfl : mfetch 160 95 = some (95, .if_icmp .ge 8, 3, 0, 0, 0)) (k_ge' hc3) ?_
        refine mEnds.stp 2 (pc' := 105) (l' := [some (.ref 10), some (.int x1), some (.int x2), some (.int x3), some (.int x4), some (.int x5), some (.int x6), some (.int v1.1)]) (st' := [.int x6]) (fun _ => rfl) ?_
        refine mEnds.cut (l := [some (.ref 10), some (.int x1), some (.int x2), some (.int x3), some (.int x4), none, some (.int x6), some (.int v1.1)]) ⟨rfl, ⟨rfl, ⟨rfl, ⟨rfl, ⟨rfl, ⟨rfl, ⟨rfl, trivial⟩⟩⟩⟩⟩⟩⟩ ?_
        exact ok_M_kind_105 (ok_M_kind_61 fu) hf
      · rw [if_neg hc3] at hf
        refine t_cT (t := 103) (rfl : mfetch 160 95 = some (95, .if_icmp .ge 8, 3, 0, 0, 0)) rfl (k_ge hc3) ?_
        refine mEnds.stp 1 (pc' := 105) (l' := [some (.ref 10), some (.int x1), some (.int x2), some (.int x3), some (.int x4), some (.int x5), some (.int x6), some (.int v1.1)]) (st' := [.int x5]) (fun _ => rfl) ?_
        refine mEnds.cut (l := [some (.ref 10), some (.int x1), some (.int x2), some (.int x3), some (.int x4), none, some (.int x6), some (.int v1.1)]) ⟨rfl, ⟨rfl, ⟨rfl, ⟨rfl, ⟨rfl, ⟨rfl, ⟨rfl, trivial⟩⟩⟩⟩⟩⟩⟩ ?_
        exact ok_M_kind_105 (ok_M_kind_61 fu) hf
    · rw [if_neg hc1] at hf
      refine t_cT (t := 129) (rfl : mfetch 160 64 = some (64, .if_icmp .ge 65, 3, 0, 0, 0)) rfl (k_ge hc1) ?_
      refine mEnds.stp 1 (pc' := 130) (l' := [some (.ref 10), some (.int x1), some (.int x2), some (.int x3), some (.int x4), some (.int x5), some (.int x6), none]) (st' := [.int x3]) (fun _ => rfl) ?_
      by_cases hc2 : x3 = 0
      · rw [if_pos hc2] at hf
        refine t_jF (rfl : mfetch 160 130 = some (130, .ifCond .ne 8, 3, 0, 0, 0)) (k_ne' hc2) ?_
        refine mEnds.stp 2 (pc' := 140) (l' := [some (.ref 10), some (.int x1), some (.int x2), some (.int x3), some (.int x4), some (.int x5), some (.int x6), none]) (st' := [.int x5]) (fun _ => rfl) ?_
        exact mEnds.rti (Option.some.inj hf) (fun _ => rfl)
      · rw [if_neg hc2] at hf
        refine t_jT (t := 138) (rfl : mfetch 160 130 = some (130, .ifCond .ne 8, 3, 0, 0, 0)) rfl (k_ne hc2) ?_
        refine mEnds.stp 1 (pc' := 140) (l' := [some (.ref 10), some (.int x1), some (.int x2), some (.int x3), some (.int x4), some (.int x5), some (.int x6), none]) (st' := [.int x4]) (fun _ => rfl) ?_
        exact mEnds.rti (Option.some.inj hf) (fun _ => rfl)
def M_kind (x1 : Int32) (x2 : Int32) (x3 : Int32) (s : sg) : Option (Int32 × sg) :=
  (M_isRoom x1 s).bind fun v1 =>
  if v1 = 0 then
    some ((-1), s)
  else
    (M_in x2.toInt64 (0 : Int64) (60 : Int64) s).bind fun v2 =>
    if v2 = 0 then
      some ((-1), s)
    else
      (M_in x3.toInt64 (0 : Int64) (1 : Int64) s).bind fun v3 =>
      if v3 = 0 then
        some ((-1), s)
      else
        (M_hasTongue x1 s).bind fun v4 =>
        if v4 = 0 then
          some ((-2), s)
        else
          (M_copies (nI 0) (nI 260) s).bind fun s1 =>
          M_kind_61 x1 x2 x3 FU (nI 1000000) (nI 0) (nI 0) s1
set_option maxRecDepth 100000 in
theorem ok_M_kind {x1 : Int32} {x2 : Int32} {x3 : Int32} {s : sg} {rv : (Int32 × sg)} (hf : M_kind x1 x2 x3 s = some rv) : mEnds [] 5 160 (0, [some (.ref 10), some (.int x1), some (.int x2), some (.int x3), none, none, none, none], [], hp shM s, 0, 0) (some (.int rv.1), hp shM rv.2, 0, 0) := by
  unfold M_kind at hf
  refine mEnds.stp 2 (pc' := 2) (l' := [some (.ref 10), some (.int x1), some (.int x2), some (.int x3), none, none, none, none]) (st' := [.int x1, .ref 10]) (fun _ => rfl) ?_
  obtain ⟨v1, hv1, hf⟩ := ob hf
  refine t_cv (as := [.int x1]) (st := []) (rfl : mfetch 160 2 = some (2, .invokevirtual 167, 3, 126, 0, 0)) rfl rfl rfl rfl rfl ((ok_M_isRoom hv1).deep 3) ?_
  by_cases hc1 : v1 = 0
  · rw [if_pos hc1] at hf
    refine t_jT (t := 30) (rfl : mfetch 160 5 = some (5, .ifCond .eq 25, 3, 0, 0, 0)) rfl (k_eq hc1) ?_
    refine mEnds.stp 1 (pc' := 31) (l' := [some (.ref 10), some (.int x1), some (.int x2), some (.int x3), none, none, none, none]) (st' := [.int (-1)]) (fun _ => rfl) ?_
    exact mEnds.rti (Option.some.inj hf) (fun _ => rfl)
  · rw [if_neg hc1] at hf
    refine t_jF (rfl : mfetch 160 5 = some (5, .ifCond .eq 25, 3, 0, 0, 0)) (k_eq' hc1) ?_
    refine mEnds.stp 4 (pc' := 14) (l' := [some (.ref 10), some (.int x1), some (.int x2), some (.int x3), none, none, none, none]) (st' := [.long (60 : Int64), .long (0 : Int64), .long x2.toInt64]) (fun _ => rfl) ?_
    obtain ⟨v2, hv2, hf⟩ := ob hf
    refine t_cs (as := [.long x2.toInt64, .long (0 : Int64), .long (60 : Int64)]) (st := []) (Or.inl rfl) (rfl : mfetch 160 14 = some (14, .invokestatic 49, 3, 111, 0, 0)) rfl rfl rfl ((ok_M_in hv2).deep 4) ?_
    by_cases hc2 : v2 = 0
    · rw [if_pos hc2] at hf
      refine t_jT (t := 30) (rfl : mfetch 160 17 = some (17, .ifCond .eq 13, 3, 0, 0, 0)) rfl (k_eq hc2) ?_
      refine mEnds.stp 1 (pc' := 31) (l' := [some (.ref 10), some (.int x1), some (.int x2), some (.int x3), none, none, none, none]) (st' := [.int (-1)]) (fun _ => rfl) ?_
      exact mEnds.rti (Option.some.inj hf) (fun _ => rfl)
    · rw [if_neg hc2] at hf
      refine t_jF (rfl : mfetch 160 17 = some (17, .ifCond .eq 13, 3, 0, 0, 0)) (k_eq' hc2) ?_
      refine mEnds.stp 4 (pc' := 24) (l' := [some (.ref 10), some (.int x1), some (.int x2), some (.int x3), none, none, none, none]) (st' := [.long (1 : Int64), .long (0 : Int64), .long x3.toInt64]) (fun _ => rfl) ?_
      obtain ⟨v3, hv3, hf⟩ := ob hf
      refine t_cs (as := [.long x3.toInt64, .long (0 : Int64), .long (1 : Int64)]) (st := []) (Or.inl rfl) (rfl : mfetch 160 24 = some (24, .invokestatic 49, 3, 111, 0, 0)) rfl rfl rfl ((ok_M_in hv3).deep 4) ?_
      by_cases hc3 : v3 = 0
      · rw [if_pos hc3] at hf
        refine t_jF (rfl : mfetch 160 27 = some (27, .ifCond .ne 5, 3, 0, 0, 0)) (k_ne' hc3) ?_
        refine mEnds.stp 1 (pc' := 31) (l' := [some (.ref 10), some (.int x1), some (.int x2), some (.int x3), none, none, none, none]) (st' := [.int (-1)]) (fun _ => rfl) ?_
        exact mEnds.rti (Option.some.inj hf) (fun _ => rfl)
      · rw [if_neg hc3] at hf
        refine t_jT (t := 32) (rfl : mfetch 160 27 = some (27, .ifCond .ne 5, 3, 0, 0, 0)) rfl (k_ne hc3) ?_
        refine mEnds.stp 2 (pc' := 34) (l' := [some (.ref 10), some (.int x1), some (.int x2), some (.int x3), none, none, none, none]) (st' := [.int x1, .ref 10]) (fun _ => rfl) ?_
        obtain ⟨v4, hv4, hf⟩ := ob hf
        refine t_cv (as := [.int x1]) (st := []) (rfl : mfetch 160 34 = some (34, .invokevirtual 173, 3, 128, 0, 0)) rfl rfl rfl rfl rfl ((ok_M_hasTongue hv4).deep 4) ?_
        by_cases hc4 : v4 = 0
        · rw [if_pos hc4] at hf
          refine t_jF (rfl : mfetch 160 37 = some (37, .ifCond .ne 6, 3, 0, 0, 0)) (k_ne' hc4) ?_
          refine mEnds.stp 1 (pc' := 42) (l' := [some (.ref 10), some (.int x1), some (.int x2), some (.int x3), none, none, none, none]) (st' := [.int (-2)]) (fun _ => rfl) ?_
          exact mEnds.rti (Option.some.inj hf) (fun _ => rfl)
        · rw [if_neg hc4] at hf
          refine t_jT (t := 43) (rfl : mfetch 160 37 = some (37, .ifCond .ne 6, 3, 0, 0, 0)) rfl (k_ne hc4) ?_
          refine mEnds.stp 7 (pc' := 55) (l' := [some (.ref 10), some (.int x1), some (.int x2), some (.int x3), some (.int (nI 1000000)), some (.int (nI 0)), none, none]) (st' := [.int (nI 260), .int (nI 0), .ref 10]) (fun _ => rfl) ?_
          obtain ⟨s1, hs1, hf⟩ := ob hf
          refine t_cv (as := [.int (nI 0), .int (nI 260)]) (st := []) (rfl : mfetch 160 55 = some (55, .invokevirtual 201, 3, 152, 0, 0)) rfl rfl rfl rfl rfl ((ok_M_copies hs1).deep 4) ?_
          refine mEnds.stp 2 (pc' := 61) (l' := [some (.ref 10), some (.int x1), some (.int x2), some (.int x3), some (.int (nI 1000000)), some (.int (nI 0)), some (.int (nI 0)), none]) (st' := []) (fun _ => rfl) ?_
          refine mEnds.cut (l := [some (.ref 10), some (.int x1), some (.int x2), some (.int x3), some (.int (nI 1000000)), some (.int (nI 0)), some (.int (nI 0)), none]) ⟨rfl, ⟨rfl, ⟨rfl, ⟨rfl, ⟨rfl, ⟨rfl, ⟨rfl, trivial⟩⟩⟩⟩⟩⟩⟩ ?_
          exact ok_M_kind_61 FU (nI 1000000) (nI 0) (nI 0) s1 _ hf
