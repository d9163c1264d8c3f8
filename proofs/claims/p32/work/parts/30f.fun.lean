def C_ahead (x1 : Int32) (x2 : Int32) (x3 : Int32) (s : sg) : Option (Int32 × sg) :=
  (H_hasRoom 11 x1 s).bind fun v1 =>
  if v1 = 0 then
    some ((-1), s)
  else
    (C_within x2 (nI 0) (nI 60) s).bind fun v2 =>
    if v2 = 0 then
      some ((-1), s)
    else
      (C_within x3 (nI 0) (nI 1) s).bind fun v3 =>
      if v3 = 0 then
        some ((-1), s)
      else
        (C_copyOfNow s).bind fun s1 =>
        (H_passHours 53 x2 s1).bind fun v5 =>
        if x3 = 0 then
          (midx x1 6).bind fun j1 =>
          some (v5.2 54 j1, v5.2)
        else
          (H_isOn 53 x1 v5.2).bind fun v6 =>
          if v6 = 0 then
            some (nI 0, v5.2)
          else
            some (nI 1, v5.2)
set_option maxRecDepth 100000 in
theorem ok_C_ahead {x1 : Int32} {x2 : Int32} {x3 : Int32} {s : sg} {rv : (Int32 × sg)} (hf : C_ahead x1 x2 x3 s = some rv) : mEnds [] 5 73 (0, [some (.ref 10), some (.int x1), some (.int x2), some (.int x3), none], [], hp shC s, 0, 0) (some (.int rv.1), hp shC rv.2, 0, 0) := by
  unfold C_ahead at hf
  refine mEnds.stp 1 (pc' := 1) (l' := [some (.ref 10), some (.int x1), some (.int x2), some (.int x3), none]) (st' := [.ref 10]) (fun _ => rfl) ?_
  refine t_gr (rfl : mfetch 73 1 = some (1, .getfield 10, 3, 4, 0, 0)) rfl rfl ?_
  refine mEnds.stp 1 (pc' := 5) (l' := [some (.ref 10), some (.int x1), some (.int x2), some (.int x3), none]) (st' := [.int x1, .ref 11]) (fun _ => rfl) ?_
  obtain ⟨v1, hv1, hf⟩ := ob hf
  refine t_cv (as := [.int x1]) (st := []) (rfl : mfetch 73 5 = some (5, .invokevirtual 105, 3, 8, 0, 0)) rfl rfl rfl rfl rfl ((ok_H_hasRoom isH_11 hv1).deep 4) ?_
  by_cases hc1 : v1 = 0
  · rw [if_pos hc1] at hf
    refine t_jT (t := 30) (rfl : mfetch 73 8 = some (8, .ifCond .eq 22, 3, 0, 0, 0)) rfl (k_eq hc1) ?_
    refine mEnds.stp 1 (pc' := 31) (l' := [some (.ref 10), some (.int x1), some (.int x2), some (.int x3), none]) (st' := [.int (-1)]) (fun _ => rfl) ?_
    exact mEnds.rti (Option.some.inj hf) (fun _ => rfl)
  · rw [if_neg hc1] at hf
    refine t_jF (rfl : mfetch 73 8 = some (8, .ifCond .eq 22, 3, 0, 0, 0)) (k_eq' hc1) ?_
    refine mEnds.stp 3 (pc' := 15) (l' := [some (.ref 10), some (.int x1), some (.int x2), some (.int x3), none]) (st' := [.int (nI 60), .int (nI 0), .int x2]) (fun _ => rfl) ?_
    obtain ⟨v2, hv2, hf⟩ := ob hf
    refine t_cs (as := [.int x2, .int (nI 0), .int (nI 60)]) (st := []) (Or.inl rfl) (rfl : mfetch 73 15 = some (15, .invokestatic 48, 3, 105, 0, 0)) rfl rfl rfl ((ok_C_within hv2).deep 4) ?_
    by_cases hc2 : v2 = 0
    · rw [if_pos hc2] at hf
      refine t_jT (t := 30) (rfl : mfetch 73 18 = some (18, .ifCond .eq 12, 3, 0, 0, 0)) rfl (k_eq hc2) ?_
      refine mEnds.stp 1 (pc' := 31) (l' := [some (.ref 10), some (.int x1), some (.int x2), some (.int x3), none]) (st' := [.int (-1)]) (fun _ => rfl) ?_
      exact mEnds.rti (Option.some.inj hf) (fun _ => rfl)
    · rw [if_neg hc2] at hf
      refine t_jF (rfl : mfetch 73 18 = some (18, .ifCond .eq 12, 3, 0, 0, 0)) (k_eq' hc2) ?_
      refine mEnds.stp 3 (pc' := 24) (l' := [some (.ref 10), some (.int x1), some (.int x2), some (.int x3), none]) (st' := [.int (nI 1), .int (nI 0), .int x3]) (fun _ => rfl) ?_
      obtain ⟨v3, hv3, hf⟩ := ob hf
      refine t_cs (as := [.int x3, .int (nI 0), .int (nI 1)]) (st := []) (Or.inl rfl) (rfl : mfetch 73 24 = some (24, .invokestatic 48, 3, 105, 0, 0)) rfl rfl rfl ((ok_C_within hv3).deep 4) ?_
      by_cases hc3 : v3 = 0
      · rw [if_pos hc3] at hf
        refine t_jF (rfl : mfetch 73 27 = some (27, .ifCond .ne 5, 3, 0, 0, 0)) (k_ne' hc3) ?_
        refine mEnds.stp 1 (pc' := 31) (l' := [some (.ref 10), some (.int x1), some (.int x2), some (.int x3), none]) (st' := [.int (-1)]) (fun _ => rfl) ?_
        exact mEnds.rti (Option.some.inj hf) (fun _ => rfl)
      · rw [if_neg hc3] at hf
        refine t_jT (t := 32) (rfl : mfetch 73 27 = some (27, .ifCond .ne 5, 3, 0, 0, 0)) rfl (k_ne hc3) ?_
        refine mEnds.stp 1 (pc' := 33) (l' := [some (.ref 10), some (.int x1), some (.int x2), some (.int x3), none]) (st' := [.ref 10]) (fun _ => rfl) ?_
        obtain ⟨s1, hs1, hf⟩ := ob hf
        refine t_cv (as := []) (st := []) (rfl : mfetch 73 33 = some (33, .invokevirtual 167, 3, 109, 0, 0)) rfl rfl rfl rfl rfl ((ok_C_copyOfNow hs1).deep 3) ?_
        refine mEnds.stp 3 (pc' := 41) (l' := [some (.ref 10), some (.int x1), some (.int x2), some (.int x3), some (.ref 53)]) (st' := [.int x2, .ref 53]) (fun _ => rfl) ?_
        obtain ⟨v5, hv5, hf⟩ := ob hf
        refine t_cv (as := [.int x2]) (st := []) (rfl : mfetch 73 41 = some (41, .invokevirtual 161, 3, 22, 0, 0)) rfl rfl rfl rfl rfl (ok_H_passHours isH_53 hv5) ?_
        refine mEnds.stp 2 (pc' := 46) (l' := [some (.ref 10), some (.int x1), some (.int x2), some (.int x3), some (.ref 53)]) (st' := [.int x3]) (fun _ => rfl) ?_
        by_cases hc4 : x3 = 0
        · rw [if_pos hc4] at hf
          refine t_jF (rfl : mfetch 73 46 = some (46, .ifCond .ne 11, 3, 0, 0, 0)) (k_ne' hc4) ?_
          refine mEnds.stp 1 (pc' := 51) (l' := [some (.ref 10), some (.int x1), some (.int x2), some (.int x3), some (.ref 53)]) (st' := [.ref 53]) (fun _ => rfl) ?_
          refine t_gr (rfl : mfetch 73 51 = some (51, .getfield 108, 3, 1, 5, 0)) rfl rfl ?_
          refine mEnds.stp 1 (pc' := 55) (l' := [some (.ref 10), some (.int x1), some (.int x2), some (.int x3), some (.ref 53)]) (st' := [.int x1, .ref 54]) (fun _ => rfl) ?_
          obtain ⟨j1, hj1, hf⟩ := ob hf
          refine t_ia (rfl : mfetch 73 55 = some (55, .iaload, 1, 0, 0, 0)) rfl rfl hj1 ?_
          exact mEnds.rti (Option.some.inj hf) (fun _ => rfl)
        · rw [if_neg hc4] at hf
          refine t_jT (t := 57) (rfl : mfetch 73 46 = some (46, .ifCond .ne 11, 3, 0, 0, 0)) rfl (k_ne hc4) ?_
          refine mEnds.stp 2 (pc' := 60) (l' := [some (.ref 10), some (.int x1), some (.int x2), some (.int x3), some (.ref 53)]) (st' := [.int x1, .ref 53]) (fun _ => rfl) ?_
          obtain ⟨v6, hv6, hf⟩ := ob hf
          refine t_cv (as := [.int x1]) (st := []) (rfl : mfetch 73 60 = some (60, .invokevirtual 118, 3, 11, 0, 0)) rfl rfl rfl rfl rfl ((ok_H_isOn isH_53 hv6).deep 4) ?_
          by_cases hc5 : v6 = 0
          · rw [if_pos hc5] at hf
            refine t_jT (t := 70) (rfl : mfetch 73 63 = some (63, .ifCond .eq 7, 3, 0, 0, 0)) rfl (k_eq hc5) ?_
            refine mEnds.stp 1 (pc' := 71) (l' := [some (.ref 10), some (.int x1), some (.int x2), some (.int x3), some (.ref 53)]) (st' := [.int (nI 0)]) (fun _ => rfl) ?_
            exact mEnds.rti (Option.some.inj hf) (fun _ => rfl)
          · rw [if_neg hc5] at hf
            refine t_jF (rfl : mfetch 73 63 = some (63, .ifCond .eq 7, 3, 0, 0, 0)) (k_eq' hc5) ?_
            refine mEnds.stp 2 (pc' := 71) (l' := [some (.ref 10), some (.int x1), some (.int x2), some (.int x3), some (.ref 53)]) (st' := [.int (nI 1)]) (fun _ => rfl) ?_
            exact mEnds.rti (Option.some.inj hf) (fun _ => rfl)
def C_cold_31 (x1 : Int32) (x2 : Int32) : Nat → Int32 → sg → Option (Int32 × sg)
  | 0, _, _ => none
  | fu + 1, x4, s =>
  if nI 60 < x4 then
    some ((-4), s)
  else
    (midx x1 6).bind fun j1 =>
    if x2 < s 54 j1 then
      (H_passHour 53 s).bind fun s1 =>
      C_cold_31 x1 x2 fu (x4 + (nI 1)) s1
    else
      some (x4, s)
set_option maxRecDepth 100000 in
theorem ok_C_cold_31 {x1 : Int32} {x2 : Int32} : ∀ (fu : Nat) (x4 : Int32) (s : sg) (rv : (Int32 × sg)), C_cold_31 x1 x2 fu x4 s = some rv → mEnds [] 4 74 (31, [none, some (.int x1), some (.int x2), some (.ref 53), some (.int x4)], [], hp shC s, 0, 0) (some (.int rv.1), hp shC rv.2, 0, 0)
  | 0, _, _, _, hf => by cases hf
  | fu + 1, x4, s, rv, hf => by
    rw [C_cold_31] at hf
    refine mEnds.stp 2 (pc' := 35) (l' := [none, some (.int x1), some (.int x2), some (.ref 53), some (.int x4)]) (st' := [.int (nI 60), .int x4]) (fun _ => rfl) ?_
    by_cases hc1 : nI 60 < x4
    · rw [if_pos hc1] at hf
      refine t_cT (t := 61) (rfl : mfetch 74 35 = some (35, .if_icmp .gt 26, 3, 0, 0, 0)) rfl (k_gt hc1) ?_
      refine mEnds.stp 1 (pc' := 63) (l' := [none, some (.int x1), some (.int x2), some (.ref 53), some (.int x4)]) (st' := [.int (-4)]) (fun _ => rfl) ?_
      exact mEnds.rti (Option.some.inj hf) (fun _ => rfl)
    · rw [if_neg hc1] at hf
      refine t_cF (rfl : mfetch 74 35 = some (35, .if_icmp .gt 26, 3, 0, 0, 0)) (k_gt' hc1) ?_
      refine mEnds.stp 1 (pc' := 39) (l' := [none, some (.int x1), some (.int x2), some (.ref 53), some (.int x4)]) (st' := [.ref 53]) (fun _ => rfl) ?_
      refine t_gr (rfl : mfetch 74 39 = some (39, .getfield 108, 3, 1, 5, 0)) rfl rfl ?_
      refine mEnds.stp 1 (pc' := 43) (l' := [none, some (.int x1), some (.int x2), some (.ref 53), some (.int x4)]) (st' := [.int x1, .ref 54]) (fun _ => rfl) ?_
      obtain ⟨j1, hj1, hf⟩ := ob hf
      refine t_ia (rfl : mfetch 74 43 = some (43, .iaload, 1, 0, 0, 0)) rfl rfl hj1 ?_
      refine mEnds.stp 1 (pc' := 45) (l' := [none, some (.int x1), some (.int x2), some (.ref 53), some (.int x4)]) (st' := [.int x2, .int (s 54 j1)]) (fun _ => rfl) ?_
      by_cases hc2 : x2 < s 54 j1
      · rw [if_pos hc2] at hf
        refine t_cT (t := 51) (rfl : mfetch 74 45 = some (45, .if_icmp .gt 6, 3, 0, 0, 0)) rfl (k_gt hc2) ?_
        refine mEnds.stp 1 (pc' := 52) (l' := [none, some (.int x1), some (.int x2), some (.ref 53), some (.int x4)]) (st' := [.ref 53]) (fun _ => rfl) ?_
        obtain ⟨s1, hs1, hf⟩ := ob hf
        refine t_cv (as := []) (st := []) (rfl : mfetch 74 52 = some (52, .invokevirtual 174, 3, 23, 0, 0)) rfl rfl rfl rfl rfl (ok_H_passHour isH_53 hs1) ?_
        refine mEnds.stp 2 (pc' := 31) (l' := [none, some (.int x1), some (.int x2), some (.ref 53), some (.int (x4 + (nI 1)))]) (st' := []) (fun _ => rfl) ?_
        refine mEnds.cut (l := [none, some (.int x1), some (.int x2), some (.ref 53), some (.int (x4 + (nI 1)))]) ⟨rfl, ⟨rfl, ⟨rfl, ⟨rfl, trivial⟩⟩⟩⟩ ?_
        exact ok_C_cold_31 fu (x4 + (nI 1)) s1 _ hf
      · rw [if_neg hc2] at hf
        refine t_cF (rfl : mfetch 74 45 = some (45, .if_icmp .gt 6, 3, 0, 0, 0)) (k_gt' hc2) ?_
        refine mEnds.stp 1 (pc' := 50) (l' := [none, some (.int x1), some (.int x2), some (.ref 53), some (.int x4)]) (st' := [.int x4]) (fun _ => rfl) ?_
        exact mEnds.rti (Option.some.inj hf) (fun _ => rfl)
def C_cold (x1 : Int32) (x2 : Int32) (s : sg) : Option (Int32 × sg) :=
  (H_hasRoom 11 x1 s).bind fun v1 =>
  if v1 = 0 then
    some ((-1), s)
  else
    (C_within x2 (nI 0) (nI 99) s).bind fun v2 =>
    if v2 = 0 then
      some ((-1), s)
    else
      (C_copyOfNow s).bind fun s1 =>
      C_cold_31 x1 x2 FU (nI 0) s1
set_option maxRecDepth 100000 in
theorem ok_C_cold {x1 : Int32} {x2 : Int32} {s : sg} {rv : (Int32 × sg)} (hf : C_cold x1 x2 s = some rv) : mEnds [] 4 74 (0, [some (.ref 10), some (.int x1), some (.int x2), none, none], [], hp shC s, 0, 0) (some (.int rv.1), hp shC rv.2, 0, 0) := by
  unfold C_cold at hf
  refine mEnds.stp 1 (pc' := 1) (l' := [some (.ref 10), some (.int x1), some (.int x2), none, none]) (st' := [.ref 10]) (fun _ => rfl) ?_
  refine t_gr (rfl : mfetch 74 1 = some (1, .getfield 10, 3, 4, 0, 0)) rfl rfl ?_
  refine mEnds.stp 1 (pc' := 5) (l' := [some (.ref 10), some (.int x1), some (.int x2), none, none]) (st' := [.int x1, .ref 11]) (fun _ => rfl) ?_
  obtain ⟨v1, hv1, hf⟩ := ob hf
  refine t_cv (as := [.int x1]) (st := []) (rfl : mfetch 74 5 = some (5, .invokevirtual 105, 3, 8, 0, 0)) rfl rfl rfl rfl rfl ((ok_H_hasRoom isH_11 hv1).deep 3) ?_
  by_cases hc1 : v1 = 0
  · rw [if_pos hc1] at hf
    refine t_jT (t := 21) (rfl : mfetch 74 8 = some (8, .ifCond .eq 13, 3, 0, 0, 0)) rfl (k_eq hc1) ?_
    refine mEnds.stp 1 (pc' := 22) (l' := [some (.ref 10), some (.int x1), some (.int x2), none, none]) (st' := [.int (-1)]) (fun _ => rfl) ?_
    exact mEnds.rti (Option.some.inj hf) (fun _ => rfl)
  · rw [if_neg hc1] at hf
    refine t_jF (rfl : mfetch 74 8 = some (8, .ifCond .eq 13, 3, 0, 0, 0)) (k_eq' hc1) ?_
    refine mEnds.stp 3 (pc' := 15) (l' := [some (.ref 10), some (.int x1), some (.int x2), none, none]) (st' := [.int (nI 99), .int (nI 0), .int x2]) (fun _ => rfl) ?_
    obtain ⟨v2, hv2, hf⟩ := ob hf
    refine t_cs (as := [.int x2, .int (nI 0), .int (nI 99)]) (st := []) (Or.inl rfl) (rfl : mfetch 74 15 = some (15, .invokestatic 48, 3, 105, 0, 0)) rfl rfl rfl ((ok_C_within hv2).deep 3) ?_
    by_cases hc2 : v2 = 0
    · rw [if_pos hc2] at hf
      refine t_jF (rfl : mfetch 74 18 = some (18, .ifCond .ne 5, 3, 0, 0, 0)) (k_ne' hc2) ?_
      refine mEnds.stp 1 (pc' := 22) (l' := [some (.ref 10), some (.int x1), some (.int x2), none, none]) (st' := [.int (-1)]) (fun _ => rfl) ?_
      exact mEnds.rti (Option.some.inj hf) (fun _ => rfl)
    · rw [if_neg hc2] at hf
      refine t_jT (t := 23) (rfl : mfetch 74 18 = some (18, .ifCond .ne 5, 3, 0, 0, 0)) rfl (k_ne hc2) ?_
      refine mEnds.stp 1 (pc' := 24) (l' := [some (.ref 10), some (.int x1), some (.int x2), none, none]) (st' := [.ref 10]) (fun _ => rfl) ?_
      obtain ⟨s1, hs1, hf⟩ := ob hf
      refine t_cv (as := []) (st := []) (rfl : mfetch 74 24 = some (24, .invokevirtual 167, 3, 109, 0, 0)) rfl rfl rfl rfl rfl ((ok_C_copyOfNow hs1).deep 2) ?_
      refine mEnds.stp 3 (pc' := 31) (l' := [some (.ref 10), some (.int x1), some (.int x2), some (.ref 53), some (.int (nI 0))]) (st' := []) (fun _ => rfl) ?_
      refine mEnds.cut (l := [none, some (.int x1), some (.int x2), some (.ref 53), some (.int (nI 0))]) ⟨rfl, ⟨rfl, ⟨rfl, ⟨rfl, trivial⟩⟩⟩⟩ ?_
      exact ok_C_cold_31 FU (nI 0) s1 _ hf
def C_again_8 : Nat → Int32 → sg → Option (Int32 × sg)
  | 0, _, _ => none
  | fu + 1, x2, s =>
  if nI 56 < x2 then
    some ((-4), s)
  else
    (H_passHours 53 (nI 8) s).bind fun v1 =>
    (H_isLike 53 11 v1.2).bind fun v2 =>
    if v2 = 0 then
      C_again_8 fu (x2 + (nI 8)) v1.2
    else
      some (x2, v1.2)
set_option maxRecDepth 100000 in
theorem ok_C_again_8 : ∀ (fu : Nat) (x2 : Int32) (s : sg) (rv : (Int32 × sg)), C_again_8 fu x2 s = some rv → mEnds [] 5 75 (8, [some (.ref 10), some (.ref 53), some (.int x2)], [], hp shC s, 0, 0) (some (.int rv.1), hp shC rv.2, 0, 0)
  | 0, _, _, _, hf => by cases hf
  | fu + 1, x2, s, rv, hf => by
    rw [C_again_8] at hf
    refine mEnds.stp 2 (pc' := 11) (l' := [some (.ref 10), some (.ref 53), some (.int x2)]) (st' := [.int (nI 56), .int x2]) (fun _ => rfl) ?_
    by_cases hc1 : nI 56 < x2
    · rw [if_pos hc1] at hf
      refine t_cT (t := 40) (rfl : mfetch 75 11 = some (11, .if_icmp .gt 29, 3, 0, 0, 0)) rfl (k_gt hc1) ?_
      refine mEnds.stp 1 (pc' := 42) (l' := [some (.ref 10), some (.ref 53), some (.int x2)]) (st' := [.int (-4)]) (fun _ => rfl) ?_
      exact mEnds.rti (Option.some.inj hf) (fun _ => rfl)
    · rw [if_neg hc1] at hf
      refine t_cF (rfl : mfetch 75 11 = some (11, .if_icmp .gt 29, 3, 0, 0, 0)) (k_gt' hc1) ?_
      refine mEnds.stp 2 (pc' := 17) (l' := [some (.ref 10), some (.ref 53), some (.int x2)]) (st' := [.int (nI 8), .ref 53]) (fun _ => rfl) ?_
      obtain ⟨v1, hv1, hf⟩ := ob hf
      refine t_cv (as := [.int (nI 8)]) (st := []) (rfl : mfetch 75 17 = some (17, .invokevirtual 161, 3, 22, 0, 0)) rfl rfl rfl rfl rfl (ok_H_passHours isH_53 hv1) ?_
      refine mEnds.stp 3 (pc' := 23) (l' := [some (.ref 10), some (.ref 53), some (.int x2)]) (st' := [.ref 10, .ref 53]) (fun _ => rfl) ?_
      refine t_gr (rfl : mfetch 75 23 = some (23, .getfield 10, 3, 4, 0, 0)) rfl rfl ?_
      obtain ⟨v2, hv2, hf⟩ := ob hf
      refine t_cv (as := [.ref 11]) (st := []) (rfl : mfetch 75 26 = some (26, .invokevirtual 182, 3, 17, 0, 0)) rfl rfl rfl rfl rfl ((ok_H_isLike isH_53 isH_11 hv2).deep 4) ?_
      by_cases hc2 : v2 = 0
      · rw [if_pos hc2] at hf
        refine t_jT (t := 34) (rfl : mfetch 75 29 = some (29, .ifCond .eq 5, 3, 0, 0, 0)) rfl (k_eq hc2) ?_
        refine mEnds.stp 2 (pc' := 8) (l' := [some (.ref 10), some (.ref 53), some (.int (x2 + (nI 8)))]) (st' := []) (fun _ => rfl) ?_
        refine mEnds.cut (l := [some (.ref 10), some (.ref 53), some (.int (x2 + (nI 8)))]) ⟨rfl, ⟨rfl, ⟨rfl, trivial⟩⟩⟩ ?_
        exact ok_C_again_8 fu (x2 + (nI 8)) v1.2 _ hf
      · rw [if_neg hc2] at hf
        refine t_jF (rfl : mfetch 75 29 = some (29, .ifCond .eq 5, 3, 0, 0, 0)) (k_eq' hc2) ?_
        refine mEnds.stp 1 (pc' := 33) (l' := [some (.ref 10), some (.ref 53), some (.int x2)]) (st' := [.int x2]) (fun _ => rfl) ?_
        exact mEnds.rti (Option.some.inj hf) (fun _ => rfl)
def C_again (s : sg) : Option (Int32 × sg) :=
  (C_copyOfNow s).bind fun s1 =>
  C_again_8 FU (nI 8) s1
set_option maxRecDepth 100000 in
theorem ok_C_again {s : sg} {rv : (Int32 × sg)} (hf : C_again s = some rv) : mEnds [] 5 75 (0, [some (.ref 10), none, none], [], hp shC s, 0, 0) (some (.int rv.1), hp shC rv.2, 0, 0) := by
  unfold C_again at hf
  refine mEnds.stp 1 (pc' := 1) (l' := [some (.ref 10), none, none]) (st' := [.ref 10]) (fun _ => rfl) ?_
  obtain ⟨s1, hs1, hf⟩ := ob hf
  refine t_cv (as := []) (st := []) (rfl : mfetch 75 1 = some (1, .invokevirtual 167, 3, 109, 0, 0)) rfl rfl rfl rfl rfl ((ok_C_copyOfNow hs1).deep 3) ?_
  refine mEnds.stp 3 (pc' := 8) (l' := [some (.ref 10), some (.ref 53), some (.int (nI 8))]) (st' := []) (fun _ => rfl) ?_
  refine mEnds.cut (l := [some (.ref 10), some (.ref 53), some (.int (nI 8))]) ⟨rfl, ⟨rfl, ⟨rfl, trivial⟩⟩⟩ ?_
  exact ok_C_again_8 FU (nI 8) s1 _ hf
def C_need_50 (x1 : Int32) (x2 : Int32) (x3 : Int32) : Nat → Int32 → sg → Option (Int32 × sg)
  | 0, _, _ => none
  | fu + 1, x4, s =>
  if nI 99 < x4 then
    some ((-4), s)
  else
    (C_copyOfNow s).bind fun s1 =>
    (midx x1 6).bind fun j1 =>
    (some (up s1 58 j1 x4)).bind fun s2 =>
    (H_staysWarm 53 x1 x2 x3 s2).bind fun v2 =>
    if v2.1 = 0 then
      C_need_50 x1 x2 x3 fu (x4 + (nI 1)) v2.2
    else
      some (x4, v2.2)
set_option maxRecDepth 100000 in
theorem ok_C_need_50 {x1 : Int32} {x2 : Int32} {x3 : Int32} : ∀ (fu : Nat) (x4 : Int32) (s : sg) (rv : (Int32 × sg)), C_need_50 x1 x2 x3 fu x4 s = some rv → mEnds [] 5 76 (50, [some (.ref 10), some (.int x1), some (.int x2), some (.int x3), some (.int x4), none], [], hp shC s, 0, 0) (some (.int rv.1), hp shC rv.2, 0, 0)
  | 0, _, _, _, hf => by cases hf
  | fu + 1, x4, s, rv, hf => by
    rw [C_need_50] at hf
    refine mEnds.stp 2 (pc' := 54) (l' := [some (.ref 10), some (.int x1), some (.int x2), some (.int x3), some (.int x4), none]) (st' := [.int (nI 99), .int x4]) (fun _ => rfl) ?_
    by_cases hc1 : nI 99 < x4
    · rw [if_pos hc1] at hf
      refine t_cT (t := 92) (rfl : mfetch 76 54 = some (54, .if_icmp .gt 38, 3, 0, 0, 0)) rfl (k_gt hc1) ?_
      refine mEnds.stp 1 (pc' := 94) (l' := [some (.ref 10), some (.int x1), some (.int x2), some (.int x3), some (.int x4), none]) (st' := [.int (-4)]) (fun _ => rfl) ?_
      exact mEnds.rti (Option.some.inj hf) (fun _ => rfl)
    · rw [if_neg hc1] at hf
      refine t_cF (rfl : mfetch 76 54 = some (54, .if_icmp .gt 38, 3, 0, 0, 0)) (k_gt' hc1) ?_
      refine mEnds.stp 1 (pc' := 58) (l' := [some (.ref 10), some (.int x1), some (.int x2), some (.int x3), some (.int x4), none]) (st' := [.ref 10]) (fun _ => rfl) ?_
      obtain ⟨s1, hs1, hf⟩ := ob hf
      refine t_cv (as := []) (st := []) (rfl : mfetch 76 58 = some (58, .invokevirtual 167, 3, 109, 0, 0)) rfl rfl rfl rfl rfl ((ok_C_copyOfNow hs1).deep 3) ?_
      refine mEnds.stp 2 (pc' := 65) (l' := [some (.ref 10), some (.int x1), some (.int x2), some (.int x3), some (.int x4), some (.ref 53)]) (st' := [.ref 53]) (fun _ => rfl) ?_
      refine t_gr (rfl : mfetch 76 65 = some (65, .getfield 131, 3, 1, 9, 0)) rfl rfl ?_
      refine mEnds.stp 2 (pc' := 71) (l' := [some (.ref 10), some (.int x1), some (.int x2), some (.int x3), some (.int x4), some (.ref 53)]) (st' := [.int x4, .int x1, .ref 58]) (fun _ => rfl) ?_
      obtain ⟨j1, hj1, hf⟩ := ob hf
      obtain ⟨s2, hs2, hf⟩ := ob hf
      refine t_is (rfl : mfetch 76 71 = some (71, .iastore, 1, 0, 0, 0)) rfl rfl hj1 hs2 ?_
      refine mEnds.stp 4 (pc' := 77) (l' := [some (.ref 10), some (.int x1), some (.int x2), some (.int x3), some (.int x4), some (.ref 53)]) (st' := [.int x3, .int x2, .int x1, .ref 53]) (fun _ => rfl) ?_
      obtain ⟨v2, hv2, hf⟩ := ob hf
      refine t_cv (as := [.int x1, .int x2, .int x3]) (st := []) (rfl : mfetch 76 77 = some (77, .invokevirtual 186, 3, 27, 0, 0)) rfl rfl rfl rfl rfl (ok_H_staysWarm isH_53 hv2) ?_
      by_cases hc2 : v2.1 = 0
      · rw [if_pos hc2] at hf
        refine t_jT (t := 86) (rfl : mfetch 76 80 = some (80, .ifCond .eq 6, 3, 0, 0, 0)) rfl (k_eq hc2) ?_
        refine mEnds.stp 2 (pc' := 50) (l' := [some (.ref 10), some (.int x1), some (.int x2), some (.int x3), some (.int (x4 + (nI 1))), some (.ref 53)]) (st' := []) (fun _ => rfl) ?_
        refine mEnds.cut (l := [some (.ref 10), some (.int x1), some (.int x2), some (.int x3), some (.int (x4 + (nI 1))), none]) ⟨rfl, ⟨rfl, ⟨rfl, ⟨rfl, ⟨rfl, trivial⟩⟩⟩⟩⟩ ?_
        exact ok_C_need_50 fu (x4 + (nI 1)) v2.2 _ hf
      · rw [if_neg hc2] at hf
        refine t_jF (rfl : mfetch 76 80 = some (80, .ifCond .eq 6, 3, 0, 0, 0)) (k_eq' hc2) ?_
        refine mEnds.stp 1 (pc' := 85) (l' := [some (.ref 10), some (.int x1), some (.int x2), some (.int x3), some (.int x4), some (.ref 53)]) (st' := [.int x4]) (fun _ => rfl) ?_
        exact mEnds.rti (Option.some.inj hf) (fun _ => rfl)
def C_need (x1 : Int32) (x2 : Int32) (x3 : Int32) (s : sg) : Option (Int32 × sg) :=
  (H_hasRoom 11 x1 s).bind fun v1 =>
  if v1 = 0 then
    some ((-1), s)
  else
    (C_within x2 (nI 1) (nI 60) s).bind fun v2 =>
    if v2 = 0 then
      some ((-1), s)
    else
      (C_within x3 (nI 0) (nI 99) s).bind fun v3 =>
      if v3 = 0 then
        some ((-1), s)
      else
        (H_hasTongue 11 x1 s).bind fun v4 =>
        if v4 = 0 then
          some ((-2), s)
        else
          C_need_50 x1 x2 x3 FU (nI 0) s
set_option maxRecDepth 100000 in
theorem ok_C_need {x1 : Int32} {x2 : Int32} {x3 : Int32} {s : sg} {rv : (Int32 × sg)} (hf : C_need x1 x2 x3 s = some rv) : mEnds [] 5 76 (0, [some (.ref 10), some (.int x1), some (.int x2), some (.int x3), none, none], [], hp shC s, 0, 0) (some (.int rv.1), hp shC rv.2, 0, 0) := by
  unfold C_need at hf
  refine mEnds.stp 1 (pc' := 1) (l' := [some (.ref 10), some (.int x1), some (.int x2), some (.int x3), none, none]) (st' := [.ref 10]) (fun _ => rfl) ?_
  refine t_gr (rfl : mfetch 76 1 = some (1, .getfield 10, 3, 4, 0, 0)) rfl rfl ?_
  refine mEnds.stp 1 (pc' := 5) (l' := [some (.ref 10), some (.int x1), some (.int x2), some (.int x3), none, none]) (st' := [.int x1, .ref 11]) (fun _ => rfl) ?_
  obtain ⟨v1, hv1, hf⟩ := ob hf
  refine t_cv (as := [.int x1]) (st := []) (rfl : mfetch 76 5 = some (5, .invokevirtual 105, 3, 8, 0, 0)) rfl rfl rfl rfl rfl ((ok_H_hasRoom isH_11 hv1).deep 4) ?_
  by_cases hc1 : v1 = 0
  · rw [if_pos hc1] at hf
    refine t_jT (t := 31) (rfl : mfetch 76 8 = some (8, .ifCond .eq 23, 3, 0, 0, 0)) rfl (k_eq hc1) ?_
    refine mEnds.stp 1 (pc' := 32) (l' := [some (.ref 10), some (.int x1), some (.int x2), some (.int x3), none, none]) (st' := [.int (-1)]) (fun _ => rfl) ?_
    exact mEnds.rti (Option.some.inj hf) (fun _ => rfl)
  · rw [if_neg hc1] at hf
    refine t_jF (rfl : mfetch 76 8 = some (8, .ifCond .eq 23, 3, 0, 0, 0)) (k_eq' hc1) ?_
    refine mEnds.stp 3 (pc' := 15) (l' := [some (.ref 10), some (.int x1), some (.int x2), some (.int x3), none, none]) (st' := [.int (nI 60), .int (nI 1), .int x2]) (fun _ => rfl) ?_
    obtain ⟨v2, hv2, hf⟩ := ob hf
    refine t_cs (as := [.int x2, .int (nI 1), .int (nI 60)]) (st := []) (Or.inl rfl) (rfl : mfetch 76 15 = some (15, .invokestatic 48, 3, 105, 0, 0)) rfl rfl rfl ((ok_C_within hv2).deep 4) ?_
    by_cases hc2 : v2 = 0
    · rw [if_pos hc2] at hf
      refine t_jT (t := 31) (rfl : mfetch 76 18 = some (18, .ifCond .eq 13, 3, 0, 0, 0)) rfl (k_eq hc2) ?_
      refine mEnds.stp 1 (pc' := 32) (l' := [some (.ref 10), some (.int x1), some (.int x2), some (.int x3), none, none]) (st' := [.int (-1)]) (fun _ => rfl) ?_
      exact mEnds.rti (Option.some.inj hf) (fun _ => rfl)
    · rw [if_neg hc2] at hf
      refine t_jF (rfl : mfetch 76 18 = some (18, .ifCond .eq 13, 3, 0, 0, 0)) (k_eq' hc2) ?_
      refine mEnds.stp 3 (pc' := 25) (l' := [some (.ref 10), some (.int x1), some (.int x2), some (.int x3), none, none]) (st' := [.int (nI 99), .int (nI 0), .int x3]) (fun _ => rfl) ?_
      obtain ⟨v3, hv3, hf⟩ := ob hf
      refine t_cs (as := [.int x3, .int (nI 0), .int (nI 99)]) (st := []) (Or.inl rfl) (rfl : mfetch 76 25 = some (25, .invokestatic 48, 3, 105, 0, 0)) rfl rfl rfl ((ok_C_within hv3).deep 4) ?_
      by_cases hc3 : v3 = 0
      · rw [if_pos hc3] at hf
        refine t_jF (rfl : mfetch 76 28 = some (28, .ifCond .ne 5, 3, 0, 0, 0)) (k_ne' hc3) ?_
        refine mEnds.stp 1 (pc' := 32) (l' := [some (.ref 10), some (.int x1), some (.int x2), some (.int x3), none, none]) (st' := [.int (-1)]) (fun _ => rfl) ?_
        exact mEnds.rti (Option.some.inj hf) (fun _ => rfl)
      · rw [if_neg hc3] at hf
        refine t_jT (t := 33) (rfl : mfetch 76 28 = some (28, .ifCond .ne 5, 3, 0, 0, 0)) rfl (k_ne hc3) ?_
        refine mEnds.stp 1 (pc' := 34) (l' := [some (.ref 10), some (.int x1), some (.int x2), some (.int x3), none, none]) (st' := [.ref 10]) (fun _ => rfl) ?_
        refine t_gr (rfl : mfetch 76 34 = some (34, .getfield 10, 3, 4, 0, 0)) rfl rfl ?_
        refine mEnds.stp 1 (pc' := 38) (l' := [some (.ref 10), some (.int x1), some (.int x2), some (.int x3), none, none]) (st' := [.int x1, .ref 11]) (fun _ => rfl) ?_
        obtain ⟨v4, hv4, hf⟩ := ob hf
        refine t_cv (as := [.int x1]) (st := []) (rfl : mfetch 76 38 = some (38, .invokevirtual 121, 3, 10, 0, 0)) rfl rfl rfl rfl rfl ((ok_H_hasTongue isH_11 hv4).deep 4) ?_
        by_cases hc4 : v4 = 0
        · rw [if_pos hc4] at hf
          refine t_jF (rfl : mfetch 76 41 = some (41, .ifCond .ne 6, 3, 0, 0, 0)) (k_ne' hc4) ?_
          refine mEnds.stp 1 (pc' := 46) (l' := [some (.ref 10), some (.int x1), some (.int x2), some (.int x3), none, none]) (st' := [.int (-2)]) (fun _ => rfl) ?_
          exact mEnds.rti (Option.some.inj hf) (fun _ => rfl)
        · rw [if_neg hc4] at hf
          refine t_jT (t := 47) (rfl : mfetch 76 41 = some (41, .ifCond .ne 6, 3, 0, 0, 0)) rfl (k_ne hc4) ?_
          refine mEnds.stp 2 (pc' := 50) (l' := [some (.ref 10), some (.int x1), some (.int x2), some (.int x3), some (.int (nI 0)), none]) (st' := []) (fun _ => rfl) ?_
          refine mEnds.cut (l := [some (.ref 10), some (.int x1), some (.int x2), some (.int x3), some (.int (nI 0)), none]) ⟨rfl, ⟨rfl, ⟨rfl, ⟨rfl, ⟨rfl, trivial⟩⟩⟩⟩⟩ ?_
          exact ok_C_need_50 FU (nI 0) s _ hf
def C_chosen (x0 : Int32) (x1 : Int32) (x2 : Int32) (s : sg) : Option Int32 :=
  if x0 = (-4) then
    some (-4)
  else
    if x2 = 0 then
      some x0
    else
      some x1
set_option maxRecDepth 100000 in
theorem ok_C_chosen {x0 : Int32} {x1 : Int32} {x2 : Int32} {s : sg} {rv : Int32} (hf : C_chosen x0 x1 x2 s = some rv) : mEnds [] 0 108 (0, [some (.int x0), some (.int x1), some (.int x2)], [], hp shC s, 0, 0) (some (.int rv), hp shC s, 0, 0) := by
  unfold C_chosen at hf
  refine mEnds.stp 2 (pc' := 3) (l' := [some (.int x0), some (.int x1), some (.int x2)]) (st' := [.int (-4), .int x0]) (fun _ => rfl) ?_
  by_cases hc1 : x0 = (-4)
  · rw [if_pos hc1] at hf
    refine t_cF (rfl : mfetch 108 3 = some (3, .if_icmp .ne 6, 3, 0, 0, 0)) (k_ne' hc1) ?_
    refine mEnds.stp 1 (pc' := 8) (l' := [some (.int x0), some (.int x1), some (.int x2)]) (st' := [.int (-4)]) (fun _ => rfl) ?_
    cases hf; exact mEnds.rt (fun _ => rfl)
  · rw [if_neg hc1] at hf
    refine t_cT (t := 9) (rfl : mfetch 108 3 = some (3, .if_icmp .ne 6, 3, 0, 0, 0)) rfl (k_ne hc1) ?_
    refine mEnds.stp 1 (pc' := 10) (l' := [some (.int x0), some (.int x1), some (.int x2)]) (st' := [.int x2]) (fun _ => rfl) ?_
    by_cases hc2 : x2 = 0
    · rw [if_pos hc2] at hf
      refine t_jF (rfl : mfetch 108 10 = some (10, .ifCond .ne 7, 3, 0, 0, 0)) (k_ne' hc2) ?_
      refine mEnds.stp 2 (pc' := 18) (l' := [some (.int x0), some (.int x1), some (.int x2)]) (st' := [.int x0]) (fun _ => rfl) ?_
      cases hf; exact mEnds.rt (fun _ => rfl)
    · rw [if_neg hc2] at hf
      refine t_jT (t := 17) (rfl : mfetch 108 10 = some (10, .ifCond .ne 7, 3, 0, 0, 0)) rfl (k_ne hc2) ?_
      refine mEnds.stp 1 (pc' := 18) (l' := [some (.int x0), some (.int x1), some (.int x2)]) (st' := [.int x1]) (fun _ => rfl) ?_
      cases hf; exact mEnds.rt (fun _ => rfl)
def C_kind_58 (x1 : Int32) (x2 : Int32) (x3 : Int32) : Nat → Int32 → Int32 → Int32 → sg → Option (Int32 × sg)
  | 0, _, _, _, _ => none
  | fu + 1, x4, x5, x6, s =>
  if nI 3 < x6 then
    (C_chosen x4 x5 x3 s).bind fun v1 =>
    some (v1, s)
  else
    (C_copyOfNow s).bind fun s1 =>
    (midx x1 6).bind fun j1 =>
    (some (up s1 57 j1 x6)).bind fun s2 =>
    (H_passHours 53 x2 s2).bind fun v3 =>
    if v3.1 < x5 then
      C_kind_58 x1 x2 x3 fu x6 v3.1 (x6 + (nI 1)) v3.2
    else
      C_kind_58 x1 x2 x3 fu x4 x5 (x6 + (nI 1)) v3.2
set_option maxRecDepth 100000 in
theorem ok_C_kind_58 {x1 : Int32} {x2 : Int32} {x3 : Int32} : ∀ (fu : Nat) (x4 : Int32) (x5 : Int32) (x6 : Int32) (s : sg) (rv : (Int32 × sg)), C_kind_58 x1 x2 x3 fu x4 x5 x6 s = some rv → mEnds [] 5 77 (58, [some (.ref 10), some (.int x1), some (.int x2), some (.int x3), some (.int x4), some (.int x5), some (.int x6), none, none], [], hp shC s, 0, 0) (some (.int rv.1), hp shC rv.2, 0, 0)
  | 0, _, _, _, _, _, hf => by cases hf
  | fu + 1, x4, x5, x6, s, rv, hf => by
    rw [C_kind_58] at hf
    refine mEnds.stp 2 (pc' := 61) (l' := [some (.ref 10), some (.int x1), some (.int x2), some (.int x3), some (.int x4), some (.int x5), some (.int x6), none, none]) (st' := [.int (nI 3), .int x6]) (fun _ => rfl) ?_
    by_cases hc1 : nI 3 < x6
    · rw [if_pos hc1] at hf
      refine t_cT (t := 108) (rfl : mfetch 77 61 = some (61, .if_icmp .gt 47, 3, 0, 0, 0)) rfl (k_gt hc1) ?_
      refine mEnds.stp 3 (pc' := 113) (l' := [some (.ref 10), some (.int x1), some (.int x2), some (.int x3), some (.int x4), some (.int x5), some (.int x6), none, none]) (st' := [.int x3, .int x5, .int x4]) (fun _ => rfl) ?_
      obtain ⟨v1, hv1, hf⟩ := ob hf
      refine t_cs (as := [.int x4, .int x5, .int x3]) (st := []) (Or.inl rfl) (rfl : mfetch 77 113 = some (113, .invokestatic 189, 3, 108, 0, 0)) rfl rfl rfl ((ok_C_chosen hv1).deep 4) ?_
      exact mEnds.rti (Option.some.inj hf) (fun _ => rfl)
    · rw [if_neg hc1] at hf
      refine t_cF (rfl : mfetch 77 61 = some (61, .if_icmp .gt 47, 3, 0, 0, 0)) (k_gt' hc1) ?_
      refine mEnds.stp 1 (pc' := 65) (l' := [some (.ref 10), some (.int x1), some (.int x2), some (.int x3), some (.int x4), some (.int x5), some (.int x6), none, none]) (st' := [.ref 10]) (fun _ => rfl) ?_
      obtain ⟨s1, hs1, hf⟩ := ob hf
      refine t_cv (as := []) (st := []) (rfl : mfetch 77 65 = some (65, .invokevirtual 167, 3, 109, 0, 0)) rfl rfl rfl rfl rfl ((ok_C_copyOfNow hs1).deep 3) ?_
      refine mEnds.stp 2 (pc' := 72) (l' := [some (.ref 10), some (.int x1), some (.int x2), some (.int x3), some (.int x4), some (.int x5), some (.int x6), some (.ref 53), none]) (st' := [.ref 53]) (fun _ => rfl) ?_
      refine t_gr (rfl : mfetch 77 72 = some (72, .getfield 128, 3, 1, 8, 0)) rfl rfl ?_
      refine mEnds.stp 2 (pc' := 78) (l' := [some (.ref 10), some (.int x1), some (.int x2), some (.int x3), some (.int x4), some (.int x5), some (.int x6), some (.ref 53), none]) (st' := [.int x6, .int x1, .ref 57]) (fun _ => rfl) ?_
      obtain ⟨j1, hj1, hf⟩ := ob hf
      obtain ⟨s2, hs2, hf⟩ := ob hf
      refine t_is (rfl : mfetch 77 78 = some (78, .iastore, 1, 0, 0, 0)) rfl rfl hj1 hs2 ?_
      refine mEnds.stp 2 (pc' := 82) (l' := [some (.ref 10), some (.int x1), some (.int x2), some (.int x3), some (.int x4), some (.int x5), some (.int x6), some (.ref 53), none]) (st' := [.int x2, .ref 53]) (fun _ => rfl) ?_
      obtain ⟨v3, hv3, hf⟩ := ob hf
      refine t_cv (as := [.int x2]) (st := []) (rfl : mfetch 77 82 = some (82, .invokevirtual 161, 3, 22, 0, 0)) rfl rfl rfl rfl rfl (ok_H_passHours isH_53 hv3) ?_
      refine mEnds.stp 3 (pc' := 91) (l' := [some (.ref 10), some (.int x1), some (.int x2), some (.int x3), some (.int x4), some (.int x5), some (.int x6), some (.ref 53), some (.int v3.1)]) (st' := [.int x5, .int v3.1]) (fun _ => rfl) ?_
      by_cases hc2 : v3.1 < x5
      · rw [if_pos hc2] at hf
        refine t_cF (rfl : mfetch 77 91 = some (91, .if_icmp .ge 11, 3, 0, 0, 0)) (k_ge' hc2) ?_
        refine mEnds.stp 6 (pc' := 58) (l' := [some (.ref 10), some (.int x1), some (.int x2), some (.int x3), some (.int x6), some (.int v3.1), some (.int (x6 + (nI 1))), some (.ref 53), some (.int v3.1)]) (st' := []) (fun _ => rfl) ?_
        refine mEnds.cut (l := [some (.ref 10), some (.int x1), some (.int x2), some (.int x3), some (.int x6), some (.int v3.1), some (.int (x6 + (nI 1))), none, none]) ⟨rfl, ⟨rfl, ⟨rfl, ⟨rfl, ⟨rfl, ⟨rfl, ⟨rfl, trivial⟩⟩⟩⟩⟩⟩⟩ ?_
        exact ok_C_kind_58 fu x6 v3.1 (x6 + (nI 1)) v3.2 _ hf
      · rw [if_neg hc2] at hf
        refine t_cT (t := 102) (rfl : mfetch 77 91 = some (91, .if_icmp .ge 11, 3, 0, 0, 0)) rfl (k_ge hc2) ?_
        refine mEnds.stp 2 (pc' := 58) (l' := [some (.ref 10), some (.int x1), some (.int x2), some (.int x3), some (.int x4), some (.int x5), some (.int (x6 + (nI 1))), some (.ref 53), some (.int v3.1)]) (st' := []) (fun _ => rfl) ?_
        refine mEnds.cut (l := [some (.ref 10), some (.int x1), some (.int x2), some (.int x3), some (.int x4), some (.int x5), some (.int (x6 + (nI 1))), none, none]) ⟨rfl, ⟨rfl, ⟨rfl, ⟨rfl, ⟨rfl, ⟨rfl, ⟨rfl, trivial⟩⟩⟩⟩⟩⟩⟩ ?_
        exact ok_C_kind_58 fu x4 x5 (x6 + (nI 1)) v3.2 _ hf
def C_kind (x1 : Int32) (x2 : Int32) (x3 : Int32) (s : sg) : Option (Int32 × sg) :=
  (H_hasRoom 11 x1 s).bind fun v1 =>
  if v1 = 0 then
    some ((-1), s)
  else
    (C_within x2 (nI 0) (nI 60) s).bind fun v2 =>
    if v2 = 0 then
      some ((-1), s)
    else
      (C_within x3 (nI 0) (nI 1) s).bind fun v3 =>
      if v3 = 0 then
        some ((-1), s)
      else
        (H_hasTongue 11 x1 s).bind fun v4 =>
        if v4 = 0 then
          some ((-2), s)
        else
          C_kind_58 x1 x2 x3 FU (-4) (nI 10000) (nI 0) s
set_option maxRecDepth 100000 in
theorem ok_C_kind {x1 : Int32} {x2 : Int32} {x3 : Int32} {s : sg} {rv : (Int32 × sg)} (hf : C_kind x1 x2 x3 s = some rv) : mEnds [] 5 77 (0, [some (.ref 10), some (.int x1), some (.int x2), some (.int x3), none, none, none, none, none], [], hp shC s, 0, 0) (some (.int rv.1), hp shC rv.2, 0, 0) := by
  unfold C_kind at hf
  refine mEnds.stp 1 (pc' := 1) (l' := [some (.ref 10), some (.int x1), some (.int x2), some (.int x3), none, none, none, none, none]) (st' := [.ref 10]) (fun _ => rfl) ?_
  refine t_gr (rfl : mfetch 77 1 = some (1, .getfield 10, 3, 4, 0, 0)) rfl rfl ?_
  refine mEnds.stp 1 (pc' := 5) (l' := [some (.ref 10), some (.int x1), some (.int x2), some (.int x3), none, none, none, none, none]) (st' := [.int x1, .ref 11]) (fun _ => rfl) ?_
  obtain ⟨v1, hv1, hf⟩ := ob hf
  refine t_cv (as := [.int x1]) (st := []) (rfl : mfetch 77 5 = some (5, .invokevirtual 105, 3, 8, 0, 0)) rfl rfl rfl rfl rfl ((ok_H_hasRoom isH_11 hv1).deep 4) ?_
  by_cases hc1 : v1 = 0
  · rw [if_pos hc1] at hf
    refine t_jT (t := 30) (rfl : mfetch 77 8 = some (8, .ifCond .eq 22, 3, 0, 0, 0)) rfl (k_eq hc1) ?_
    refine mEnds.stp 1 (pc' := 31) (l' := [some (.ref 10), some (.int x1), some (.int x2), some (.int x3), none, none, none, none, none]) (st' := [.int (-1)]) (fun _ => rfl) ?_
    exact mEnds.rti (Option.some.inj hf) (fun _ => rfl)
  · rw [if_neg hc1] at hf
    refine t_jF (rfl : mfetch 77 8 = some (8, .ifCond .eq 22, 3, 0, 0, 0)) (k_eq' hc1) ?_
    refine mEnds.stp 3 (pc' := 15) (l' := [some (.ref 10), some (.int x1), some (.int x2), some (.int x3), none, none, none, none, none]) (st' := [.int (nI 60), .int (nI 0), .int x2]) (fun _ => rfl) ?_
    obtain ⟨v2, hv2, hf⟩ := ob hf
    refine t_cs (as := [.int x2, .int (nI 0), .int (nI 60)]) (st := []) (Or.inl rfl) (rfl : mfetch 77 15 = some (15, .invokestatic 48, 3, 105, 0, 0)) rfl rfl rfl ((ok_C_within hv2).deep 4) ?_
    by_cases hc2 : v2 = 0
    · rw [if_pos hc2] at hf
      refine t_jT (t := 30) (rfl : mfetch 77 18 = some (18, .ifCond .eq 12, 3, 0, 0, 0)) rfl (k_eq hc2) ?_
      refine mEnds.stp 1 (pc' := 31) (l' := [some (.ref 10), some (.int x1), some (.int x2), some (.int x3), none, none, none, none, none]) (st' := [.int (-1)]) (fun _ => rfl) ?_
      exact mEnds.rti (Option.some.inj hf) (fun _ => rfl)
    · rw [if_neg hc2] at hf
      refine t_jF (rfl : mfetch 77 18 = some (18, .ifCond .eq 12, 3, 0, 0, 0)) (k_eq' hc2) ?_
      refine mEnds.stp 3 (pc' := 24) (l' := [some (.ref 10), some (.int x1), some (.int x2), some (.int x3), none, none, none, none, none]) (st' := [.int (nI 1), .int (nI 0), .int x3]) (fun _ => rfl) ?_
      obtain ⟨v3, hv3, hf⟩ := ob hf
      refine t_cs (as := [.int x3, .int (nI 0), .int (nI 1)]) (st := []) (Or.inl rfl) (rfl : mfetch 77 24 = some (24, .invokestatic 48, 3, 105, 0, 0)) rfl rfl rfl ((ok_C_within hv3).deep 4) ?_
      by_cases hc3 : v3 = 0
      · rw [if_pos hc3] at hf
        refine t_jF (rfl : mfetch 77 27 = some (27, .ifCond .ne 5, 3, 0, 0, 0)) (k_ne' hc3) ?_
        refine mEnds.stp 1 (pc' := 31) (l' := [some (.ref 10), some (.int x1), some (.int x2), some (.int x3), none, none, none, none, none]) (st' := [.int (-1)]) (fun _ => rfl) ?_
        exact mEnds.rti (Option.some.inj hf) (fun _ => rfl)
      · rw [if_neg hc3] at hf
        refine t_jT (t := 32) (rfl : mfetch 77 27 = some (27, .ifCond .ne 5, 3, 0, 0, 0)) rfl (k_ne hc3) ?_
        refine mEnds.stp 1 (pc' := 33) (l' := [some (.ref 10), some (.int x1), some (.int x2), some (.int x3), none, none, none, none, none]) (st' := [.ref 10]) (fun _ => rfl) ?_
        refine t_gr (rfl : mfetch 77 33 = some (33, .getfield 10, 3, 4, 0, 0)) rfl rfl ?_
        refine mEnds.stp 1 (pc' := 37) (l' := [some (.ref 10), some (.int x1), some (.int x2), some (.int x3), none, none, none, none, none]) (st' := [.int x1, .ref 11]) (fun _ => rfl) ?_
        obtain ⟨v4, hv4, hf⟩ := ob hf
        refine t_cv (as := [.int x1]) (st := []) (rfl : mfetch 77 37 = some (37, .invokevirtual 121, 3, 10, 0, 0)) rfl rfl rfl rfl rfl ((ok_H_hasTongue isH_11 hv4).deep 4) ?_
        by_cases hc4 : v4 = 0
        · rw [if_pos hc4] at hf
          refine t_jF (rfl : mfetch 77 40 = some (40, .ifCond .ne 6, 3, 0, 0, 0)) (k_ne' hc4) ?_
          refine mEnds.stp 1 (pc' := 45) (l' := [some (.ref 10), some (.int x1), some (.int x2), some (.int x3), none, none, none, none, none]) (st' := [.int (-2)]) (fun _ => rfl) ?_
          exact mEnds.rti (Option.some.inj hf) (fun _ => rfl)
        · rw [if_neg hc4] at hf
          refine t_jT (t := 46) (rfl : mfetch 77 40 = some (40, .ifCond .ne 6, 3, 0, 0, 0)) rfl (k_ne hc4) ?_
          refine mEnds.stp 6 (pc' := 58) (l' := [some (.ref 10), some (.int x1), some (.int x2), some (.int x3), some (.int (-4)), some (.int (nI 10000)), some (.int (nI 0)), none, none]) (st' := []) (fun _ => rfl) ?_
          refine mEnds.cut (l := [some (.ref 10), some (.int x1), some (.int x2), some (.int x3), some (.int (-4)), some (.int (nI 10000)), some (.int (nI 0)), none, none]) ⟨rfl, ⟨rfl, ⟨rfl, ⟨rfl, ⟨rfl, ⟨rfl, ⟨rfl, trivial⟩⟩⟩⟩⟩⟩⟩ ?_
          exact ok_C_kind_58 FU (-4) (nI 10000) (nI 0) s _ hf
def C_swap_55 (k37 : Int32 → Int32 → Int32 → sg → Option (Int32 × sg)) (x1 : Int32) (x2 : Int32) (x5 : Int32) : Nat → Int32 → Int32 → Int32 → sg → Option (Int32 × sg)
  | 0, _, _, _, _ => none
  | fu + 1, x3, x4, x6, s =>
  if x6 < s 11 0 then
    (C_copyOfNow s).bind fun s1 =>
    (H_exchangeTongues 53 x5 x6 s1).bind fun s2 =>
    (H_passHours 53 x1 s2).bind fun v3 =>
    if v3.1 < x4 then
      C_swap_55 k37 x1 x2 x5 fu (((nI 10) * x5) + x6) v3.1 (x6 + (nI 1)) v3.2
    else
      C_swap_55 k37 x1 x2 x5 fu x3 x4 (x6 + (nI 1)) v3.2
  else
    k37 x3 x4 (x5 + (nI 1)) s
set_option maxRecDepth 100000 in
theorem ok_C_swap_55 {k37 : Int32 → Int32 → Int32 → sg → Option (Int32 × sg)} {x1 : Int32} {x2 : Int32} {x5 : Int32} (hk37 : ∀ (x3 : Int32) (x4 : Int32) (x5 : Int32) (s : sg) (rv : (Int32 × sg)), k37 x3 x4 x5 s = some rv → mEnds [] 5 78 (37, [some (.ref 10), some (.int x1), some (.int x2), some (.int x3), some (.int x4), some (.int x5), none, none, none], [], hp shC s, 0, 0) (some (.int rv.1), hp shC rv.2, 0, 0)) : ∀ (fu : Nat) (x3 : Int32) (x4 : Int32) (x6 : Int32) (s : sg) (rv : (Int32 × sg)), C_swap_55 k37 x1 x2 x5 fu x3 x4 x6 s = some rv → mEnds [] 5 78 (55, [some (.ref 10), some (.int x1), some (.int x2), some (.int x3), some (.int x4), some (.int x5), some (.int x6), none, none], [], hp shC s, 0, 0) (some (.int rv.1), hp shC rv.2, 0, 0)
  | 0, _, _, _, _, _, hf => by cases hf
  | fu + 1, x3, x4, x6, s, rv, hf => by
    rw [C_swap_55] at hf
    refine mEnds.stp 2 (pc' := 58) (l' := [some (.ref 10), some (.int x1), some (.int x2), some (.int x3), some (.int x4), some (.int x5), some (.int x6), none, none]) (st' := [.ref 10, .int x6]) (fun _ => rfl) ?_
    refine t_gr (rfl : mfetch 78 58 = some (58, .getfield 10, 3, 4, 0, 0)) rfl rfl ?_
    refine t_gi (rfl : mfetch 78 61 = some (61, .getfield 83, 3, 1, 0, 0)) rfl rfl ?_
    by_cases hc1 : x6 < s 11 0
    · rw [if_pos hc1] at hf
      refine t_cF (rfl : mfetch 78 64 = some (64, .if_icmp .ge 52, 3, 0, 0, 0)) (k_ge' hc1) ?_
      refine mEnds.stp 1 (pc' := 68) (l' := [some (.ref 10), some (.int x1), some (.int x2), some (.int x3), some (.int x4), some (.int x5), some (.int x6), none, none]) (st' := [.ref 10]) (fun _ => rfl) ?_
      obtain ⟨s1, hs1, hf⟩ := ob hf
      refine t_cv (as := []) (st := []) (rfl : mfetch 78 68 = some (68, .invokevirtual 167, 3, 109, 0, 0)) rfl rfl rfl rfl rfl ((ok_C_copyOfNow hs1).deep 3) ?_
      refine mEnds.stp 4 (pc' := 79) (l' := [some (.ref 10), some (.int x1), some (.int x2), some (.int x3), some (.int x4), some (.int x5), some (.int x6), some (.ref 53), none]) (st' := [.int x6, .int x5, .ref 53]) (fun _ => rfl) ?_
      obtain ⟨s2, hs2, hf⟩ := ob hf
      refine t_cv (as := [.int x5, .int x6]) (st := []) (rfl : mfetch 78 79 = some (79, .invokevirtual 193, 3, 21, 0, 0)) rfl rfl rfl rfl rfl ((ok_H_exchangeTongues isH_53 hs2).deep 3) ?_
      refine mEnds.stp 2 (pc' := 85) (l' := [some (.ref 10), some (.int x1), some (.int x2), some (.int x3), some (.int x4), some (.int x5), some (.int x6), some (.ref 53), none]) (st' := [.int x1, .ref 53]) (fun _ => rfl) ?_
      obtain ⟨v3, hv3, hf⟩ := ob hf
      refine t_cv (as := [.int x1]) (st := []) (rfl : mfetch 78 85 = some (85, .invokevirtual 161, 3, 22, 0, 0)) rfl rfl rfl rfl rfl (ok_H_passHours isH_53 hv3) ?_
      refine mEnds.stp 3 (pc' := 94) (l' := [some (.ref 10), some (.int x1), some (.int x2), some (.int x3), some (.int x4), some (.int x5), some (.int x6), some (.ref 53), some (.int v3.1)]) (st' := [.int x4, .int v3.1]) (fun _ => rfl) ?_
      by_cases hc2 : v3.1 < x4
      · rw [if_pos hc2] at hf
        refine t_cF (rfl : mfetch 78 94 = some (94, .if_icmp .ge 16, 3, 0, 0, 0)) (k_ge' hc2) ?_
        refine mEnds.stp 10 (pc' := 55) (l' := [some (.ref 10), some (.int x1), some (.int x2), some (.int (((nI 10) * x5) + x6)), some (.int v3.1), some (.int x5), some (.int (x6 + (nI 1))), some (.ref 53), some (.int v3.1)]) (st' := []) (fun _ => rfl) ?_
        refine mEnds.cut (l := [some (.ref 10), some (.int x1), some (.int x2), some (.int (((nI 10) * x5) + x6)), some (.int v3.1), some (.int x5), some (.int (x6 + (nI 1))), none, none]) ⟨rfl, ⟨rfl, ⟨rfl, ⟨rfl, ⟨rfl, ⟨rfl, ⟨rfl, trivial⟩⟩⟩⟩⟩⟩⟩ ?_
        exact ok_C_swap_55 hk37 fu (((nI 10) * x5) + x6) v3.1 (x6 + (nI 1)) v3.2 _ hf
      · rw [if_neg hc2] at hf
        refine t_cT (t := 110) (rfl : mfetch 78 94 = some (94, .if_icmp .ge 16, 3, 0, 0, 0)) rfl (k_ge hc2) ?_
        refine mEnds.stp 2 (pc' := 55) (l' := [some (.ref 10), some (.int x1), some (.int x2), some (.int x3), some (.int x4), some (.int x5), some (.int (x6 + (nI 1))), some (.ref 53), some (.int v3.1)]) (st' := []) (fun _ => rfl) ?_
        refine mEnds.cut (l := [some (.ref 10), some (.int x1), some (.int x2), some (.int x3), some (.int x4), some (.int x5), some (.int (x6 + (nI 1))), none, none]) ⟨rfl, ⟨rfl, ⟨rfl, ⟨rfl, ⟨rfl, ⟨rfl, ⟨rfl, trivial⟩⟩⟩⟩⟩⟩⟩ ?_
        exact ok_C_swap_55 hk37 fu x3 x4 (x6 + (nI 1)) v3.2 _ hf
    · rw [if_neg hc1] at hf
      refine t_cT (t := 116) (rfl : mfetch 78 64 = some (64, .if_icmp .ge 52, 3, 0, 0, 0)) rfl (k_ge hc1) ?_
      refine mEnds.stp 2 (pc' := 37) (l' := [some (.ref 10), some (.int x1), some (.int x2), some (.int x3), some (.int x4), some (.int (x5 + (nI 1))), some (.int x6), none, none]) (st' := []) (fun _ => rfl) ?_
      refine mEnds.cut (l := [some (.ref 10), some (.int x1), some (.int x2), some (.int x3), some (.int x4), some (.int (x5 + (nI 1))), none, none, none]) ⟨rfl, ⟨rfl, ⟨rfl, ⟨rfl, ⟨rfl, ⟨rfl, trivial⟩⟩⟩⟩⟩⟩ ?_
      exact hk37 x3 x4 (x5 + (nI 1)) s _ hf
def C_swap_37 (x1 : Int32) (x2 : Int32) : Nat → Int32 → Int32 → Int32 → sg → Option (Int32 × sg)
  | 0, _, _, _, _ => none
  | fu + 1, x3, x4, x5, s =>
  if x5 < s 11 0 then
    C_swap_55 (C_swap_37 x1 x2 fu) x1 x2 x5 FU x3 x4 (x5 + (nI 1)) s
  else
    (C_chosen x3 x4 x2 s).bind fun v1 =>
    some (v1, s)
set_option maxRecDepth 100000 in
theorem ok_C_swap_37 {x1 : Int32} {x2 : Int32} : ∀ (fu : Nat) (x3 : Int32) (x4 : Int32) (x5 : Int32) (s : sg) (rv : (Int32 × sg)), C_swap_37 x1 x2 fu x3 x4 x5 s = some rv → mEnds [] 5 78 (37, [some (.ref 10), some (.int x1), some (.int x2), some (.int x3), some (.int x4), some (.int x5), none, none, none], [], hp shC s, 0, 0) (some (.int rv.1), hp shC rv.2, 0, 0)
  | 0, _, _, _, _, _, hf => by cases hf
  | fu + 1, x3, x4, x5, s, rv, hf => by
    rw [C_swap_37] at hf
    refine mEnds.stp 2 (pc' := 40) (l' := [some (.ref 10), some (.int x1), some (.int x2), some (.int x3), some (.int x4), some (.int x5), none, none, none]) (st' := [.ref 10, .int x5]) (fun _ => rfl) ?_
    refine t_gr (rfl : mfetch 78 40 = some (40, .getfield 10, 3, 4, 0, 0)) rfl rfl ?_
    refine t_gi (rfl : mfetch 78 43 = some (43, .getfield 83, 3, 1, 0, 0)) rfl rfl ?_
    by_cases hc1 : x5 < s 11 0
    · rw [if_pos hc1] at hf
      refine t_cF (rfl : mfetch 78 46 = some (46, .if_icmp .ge 76, 3, 0, 0, 0)) (k_ge' hc1) ?_
      refine mEnds.stp 4 (pc' := 55) (l' := [some (.ref 10), some (.int x1), some (.int x2), some (.int x3), some (.int x4), some (.int x5), some (.int (x5 + (nI 1))), none, none]) (st' := []) (fun _ => rfl) ?_
      refine mEnds.cut (l := [some (.ref 10), some (.int x1), some (.int x2), some (.int x3), some (.int x4), some (.int x5), some (.int (x5 + (nI 1))), none, none]) ⟨rfl, ⟨rfl, ⟨rfl, ⟨rfl, ⟨rfl, ⟨rfl, ⟨rfl, trivial⟩⟩⟩⟩⟩⟩⟩ ?_
      exact ok_C_swap_55 (ok_C_swap_37 fu) FU x3 x4 (x5 + (nI 1)) s _ hf
    · rw [if_neg hc1] at hf
      refine t_cT (t := 122) (rfl : mfetch 78 46 = some (46, .if_icmp .ge 76, 3, 0, 0, 0)) rfl (k_ge hc1) ?_
      refine mEnds.stp 3 (pc' := 126) (l' := [some (.ref 10), some (.int x1), some (.int x2), some (.int x3), some (.int x4), some (.int x5), none, none, none]) (st' := [.int x2, .int x4, .int x3]) (fun _ => rfl) ?_
      obtain ⟨v1, hv1, hf⟩ := ob hf
      refine t_cs (as := [.int x3, .int x4, .int x2]) (st := []) (Or.inl rfl) (rfl : mfetch 78 126 = some (126, .invokestatic 189, 3, 108, 0, 0)) rfl rfl rfl ((ok_C_chosen hv1).deep 4) ?_
      exact mEnds.rti (Option.some.inj hf) (fun _ => rfl)
def C_swap (x1 : Int32) (x2 : Int32) (s : sg) : Option (Int32 × sg) :=
  (C_within x1 (nI 0) (nI 60) s).bind fun v1 =>
  if v1 = 0 then
    some ((-1), s)
  else
    (C_within x2 (nI 0) (nI 1) s).bind fun v2 =>
    if v2 = 0 then
      some ((-1), s)
    else
      (C_copyOfNow s).bind fun s1 =>
      (H_passHours 53 x1 s1).bind fun v4 =>
      C_swap_37 x1 x2 FU (-4) v4.1 (nI 0) v4.2
set_option maxRecDepth 100000 in
theorem ok_C_swap {x1 : Int32} {x2 : Int32} {s : sg} {rv : (Int32 × sg)} (hf : C_swap x1 x2 s = some rv) : mEnds [] 5 78 (0, [some (.ref 10), some (.int x1), some (.int x2), none, none, none, none, none, none], [], hp shC s, 0, 0) (some (.int rv.1), hp shC rv.2, 0, 0) := by
  unfold C_swap at hf
  refine mEnds.stp 3 (pc' := 4) (l' := [some (.ref 10), some (.int x1), some (.int x2), none, none, none, none, none, none]) (st' := [.int (nI 60), .int (nI 0), .int x1]) (fun _ => rfl) ?_
  obtain ⟨v1, hv1, hf⟩ := ob hf
  refine t_cs (as := [.int x1, .int (nI 0), .int (nI 60)]) (st := []) (Or.inl rfl) (rfl : mfetch 78 4 = some (4, .invokestatic 48, 3, 105, 0, 0)) rfl rfl rfl ((ok_C_within hv1).deep 4) ?_
  by_cases hc1 : v1 = 0
  · rw [if_pos hc1] at hf
    refine t_jT (t := 19) (rfl : mfetch 78 7 = some (7, .ifCond .eq 12, 3, 0, 0, 0)) rfl (k_eq hc1) ?_
    refine mEnds.stp 1 (pc' := 20) (l' := [some (.ref 10), some (.int x1), some (.int x2), none, none, none, none, none, none]) (st' := [.int (-1)]) (fun _ => rfl) ?_
    exact mEnds.rti (Option.some.inj hf) (fun _ => rfl)
  · rw [if_neg hc1] at hf
    refine t_jF (rfl : mfetch 78 7 = some (7, .ifCond .eq 12, 3, 0, 0, 0)) (k_eq' hc1) ?_
    refine mEnds.stp 3 (pc' := 13) (l' := [some (.ref 10), some (.int x1), some (.int x2), none, none, none, none, none, none]) (st' := [.int (nI 1), .int (nI 0), .int x2]) (fun _ => rfl) ?_
    obtain ⟨v2, hv2, hf⟩ := ob hf
    refine t_cs (as := [.int x2, .int (nI 0), .int (nI 1)]) (st := []) (Or.inl rfl) (rfl : mfetch 78 13 = some (13, .invokestatic 48, 3, 105, 0, 0)) rfl rfl rfl ((ok_C_within hv2).deep 4) ?_
    by_cases hc2 : v2 = 0
    · rw [if_pos hc2] at hf
      refine t_jF (rfl : mfetch 78 16 = some (16, .ifCond .ne 5, 3, 0, 0, 0)) (k_ne' hc2) ?_
      refine mEnds.stp 1 (pc' := 20) (l' := [some (.ref 10), some (.int x1), some (.int x2), none, none, none, none, none, none]) (st' := [.int (-1)]) (fun _ => rfl) ?_
      exact mEnds.rti (Option.some.inj hf) (fun _ => rfl)
    · rw [if_neg hc2] at hf
      refine t_jT (t := 21) (rfl : mfetch 78 16 = some (16, .ifCond .ne 5, 3, 0, 0, 0)) rfl (k_ne hc2) ?_
      refine mEnds.stp 3 (pc' := 25) (l' := [some (.ref 10), some (.int x1), some (.int x2), some (.int (-4)), none, none, none, none, none]) (st' := [.ref 10]) (fun _ => rfl) ?_
      obtain ⟨s1, hs1, hf⟩ := ob hf
      refine t_cv (as := []) (st := []) (rfl : mfetch 78 25 = some (25, .invokevirtual 167, 3, 109, 0, 0)) rfl rfl rfl rfl rfl ((ok_C_copyOfNow hs1).deep 3) ?_
      refine mEnds.stp 1 (pc' := 29) (l' := [some (.ref 10), some (.int x1), some (.int x2), some (.int (-4)), none, none, none, none, none]) (st' := [.int x1, .ref 53]) (fun _ => rfl) ?_
      obtain ⟨v4, hv4, hf⟩ := ob hf
      refine t_cv (as := [.int x1]) (st := []) (rfl : mfetch 78 29 = some (29, .invokevirtual 161, 3, 22, 0, 0)) rfl rfl rfl rfl rfl (ok_H_passHours isH_53 hv4) ?_
      refine mEnds.stp 3 (pc' := 37) (l' := [some (.ref 10), some (.int x1), some (.int x2), some (.int (-4)), some (.int v4.1), some (.int (nI 0)), none, none, none]) (st' := []) (fun _ => rfl) ?_
      refine mEnds.cut (l := [some (.ref 10), some (.int x1), some (.int x2), some (.int (-4)), some (.int v4.1), some (.int (nI 0)), none, none, none]) ⟨rfl, ⟨rfl, ⟨rfl, ⟨rfl, ⟨rfl, ⟨rfl, trivial⟩⟩⟩⟩⟩⟩ ?_
      exact ok_C_swap_37 FU (-4) v4.1 (nI 0) v4.2 _ hf
def C_seal_37 (x1 : Int32) (x2 : Int32) : Nat → Int32 → Int32 → Int32 → sg → Option (Int32 × sg)
  | 0, _, _, _, _ => none
  | fu + 1, x3, x4, x5, s =>
  if x5 < (s 11 0) - (nI 1) then
    (C_copyOfNow s).bind fun s1 =>
    (midx x5 5).bind fun j1 =>
    (some (up s1 59 j1 (nI 0))).bind fun s2 =>
    (H_passHours 53 x1 s2).bind fun v3 =>
    if v3.1 < x4 then
      C_seal_37 x1 x2 fu x5 v3.1 (x5 + (nI 1)) v3.2
    else
      C_seal_37 x1 x2 fu x3 x4 (x5 + (nI 1)) v3.2
  else
    (C_chosen x3 x4 x2 s).bind fun v1 =>
    some (v1, s)
set_option maxRecDepth 100000 in
theorem ok_C_seal_37 {x1 : Int32} {x2 : Int32} : ∀ (fu : Nat) (x3 : Int32) (x4 : Int32) (x5 : Int32) (s : sg) (rv : (Int32 × sg)), C_seal_37 x1 x2 fu x3 x4 x5 s = some rv → mEnds [] 5 79 (37, [some (.ref 10), some (.int x1), some (.int x2), some (.int x3), some (.int x4), some (.int x5), none, none], [], hp shC s, 0, 0) (some (.int rv.1), hp shC rv.2, 0, 0)
  | 0, _, _, _, _, _, hf => by cases hf
  | fu + 1, x3, x4, x5, s, rv, hf => by
    rw [C_seal_37] at hf
    refine mEnds.stp 2 (pc' := 40) (l' := [some (.ref 10), some (.int x1), some (.int x2), some (.int x3), some (.int x4), some (.int x5), none, none]) (st' := [.ref 10, .int x5]) (fun _ => rfl) ?_
    refine t_gr (rfl : mfetch 79 40 = some (40, .getfield 10, 3, 4, 0, 0)) rfl rfl ?_
    refine t_gi (rfl : mfetch 79 43 = some (43, .getfield 83, 3, 1, 0, 0)) rfl rfl ?_
    refine mEnds.stp 2 (pc' := 48) (l' := [some (.ref 10), some (.int x1), some (.int x2), some (.int x3), some (.int x4), some (.int x5), none, none]) (st' := [.int ((s 11 0) - (nI 1)), .int x5]) (fun _ => rfl) ?_
    by_cases hc1 : x5 < (s 11 0) - (nI 1)
    · rw [if_pos hc1] at hf
      refine t_cF (rfl : mfetch 79 48 = some (48, .if_icmp .ge 46, 3, 0, 0, 0)) (k_ge' hc1) ?_
      refine mEnds.stp 1 (pc' := 52) (l' := [some (.ref 10), some (.int x1), some (.int x2), some (.int x3), some (.int x4), some (.int x5), none, none]) (st' := [.ref 10]) (fun _ => rfl) ?_
      obtain ⟨s1, hs1, hf⟩ := ob hf
      refine t_cv (as := []) (st := []) (rfl : mfetch 79 52 = some (52, .invokevirtual 167, 3, 109, 0, 0)) rfl rfl rfl rfl rfl ((ok_C_copyOfNow hs1).deep 3) ?_
      refine mEnds.stp 2 (pc' := 59) (l' := [some (.ref 10), some (.int x1), some (.int x2), some (.int x3), some (.int x4), some (.int x5), some (.ref 53), none]) (st' := [.ref 53]) (fun _ => rfl) ?_
      refine t_gr (rfl : mfetch 79 59 = some (59, .getfield 144, 3, 1, 10, 0)) rfl rfl ?_
      refine mEnds.stp 2 (pc' := 65) (l' := [some (.ref 10), some (.int x1), some (.int x2), some (.int x3), some (.int x4), some (.int x5), some (.ref 53), none]) (st' := [.int (nI 0), .int x5, .ref 59]) (fun _ => rfl) ?_
      obtain ⟨j1, hj1, hf⟩ := ob hf
      obtain ⟨s2, hs2, hf⟩ := ob hf
      refine t_is (rfl : mfetch 79 65 = some (65, .iastore, 1, 0, 0, 0)) rfl rfl hj1 hs2 ?_
      refine mEnds.stp 2 (pc' := 69) (l' := [some (.ref 10), some (.int x1), some (.int x2), some (.int x3), some (.int x4), some (.int x5), some (.ref 53), none]) (st' := [.int x1, .ref 53]) (fun _ => rfl) ?_
      obtain ⟨v3, hv3, hf⟩ := ob hf
      refine t_cv (as := [.int x1]) (st := []) (rfl : mfetch 79 69 = some (69, .invokevirtual 161, 3, 22, 0, 0)) rfl rfl rfl rfl rfl (ok_H_passHours isH_53 hv3) ?_
      refine mEnds.stp 3 (pc' := 78) (l' := [some (.ref 10), some (.int x1), some (.int x2), some (.int x3), some (.int x4), some (.int x5), some (.ref 53), some (.int v3.1)]) (st' := [.int x4, .int v3.1]) (fun _ => rfl) ?_
      by_cases hc2 : v3.1 < x4
      · rw [if_pos hc2] at hf
        refine t_cF (rfl : mfetch 79 78 = some (78, .if_icmp .ge 10, 3, 0, 0, 0)) (k_ge' hc2) ?_
        refine mEnds.stp 6 (pc' := 37) (l' := [some (.ref 10), some (.int x1), some (.int x2), some (.int x5), some (.int v3.1), some (.int (x5 + (nI 1))), some (.ref 53), some (.int v3.1)]) (st' := []) (fun _ => rfl) ?_
        refine mEnds.cut (l := [some (.ref 10), some (.int x1), some (.int x2), some (.int x5), some (.int v3.1), some (.int (x5 + (nI 1))), none, none]) ⟨rfl, ⟨rfl, ⟨rfl, ⟨rfl, ⟨rfl, ⟨rfl, trivial⟩⟩⟩⟩⟩⟩ ?_
        exact ok_C_seal_37 fu x5 v3.1 (x5 + (nI 1)) v3.2 _ hf
      · rw [if_neg hc2] at hf
        refine t_cT (t := 88) (rfl : mfetch 79 78 = some (78, .if_icmp .ge 10, 3, 0, 0, 0)) rfl (k_ge hc2) ?_
        refine mEnds.stp 2 (pc' := 37) (l' := [some (.ref 10), some (.int x1), some (.int x2), some (.int x3), some (.int x4), some (.int (x5 + (nI 1))), some (.ref 53), some (.int v3.1)]) (st' := []) (fun _ => rfl) ?_
        refine mEnds.cut (l := [some (.ref 10), some (.int x1), some (.int x2), some (.int x3), some (.int x4), some (.int (x5 + (nI 1))), none, none]) ⟨rfl, ⟨rfl, ⟨rfl, ⟨rfl, ⟨rfl, ⟨rfl, trivial⟩⟩⟩⟩⟩⟩ ?_
        exact ok_C_seal_37 fu x3 x4 (x5 + (nI 1)) v3.2 _ hf
    · rw [if_neg hc1] at hf
      refine t_cT (t := 94) (rfl : mfetch 79 48 = some (48, .if_icmp .ge 46, 3, 0, 0, 0)) rfl (k_ge hc1) ?_
      refine mEnds.stp 3 (pc' := 98) (l' := [some (.ref 10), some (.int x1), some (.int x2), some (.int x3), some (.int x4), some (.int x5), none, none]) (st' := [.int x2, .int x4, .int x3]) (fun _ => rfl) ?_
      obtain ⟨v1, hv1, hf⟩ := ob hf
      refine t_cs (as := [.int x3, .int x4, .int x2]) (st := []) (Or.inl rfl) (rfl : mfetch 79 98 = some (98, .invokestatic 189, 3, 108, 0, 0)) rfl rfl rfl ((ok_C_chosen hv1).deep 4) ?_
      exact mEnds.rti (Option.some.inj hf) (fun _ => rfl)
def C_seal (x1 : Int32) (x2 : Int32) (s : sg) : Option (Int32 × sg) :=
  (C_within x1 (nI 0) (nI 60) s).bind fun v1 =>
  if v1 = 0 then
    some ((-1), s)
  else
    (C_within x2 (nI 0) (nI 1) s).bind fun v2 =>
    if v2 = 0 then
      some ((-1), s)
    else
      (C_copyOfNow s).bind fun s1 =>
      (H_passHours 53 x1 s1).bind fun v4 =>
      C_seal_37 x1 x2 FU (-4) v4.1 (nI 0) v4.2
set_option maxRecDepth 100000 in
theorem ok_C_seal {x1 : Int32} {x2 : Int32} {s : sg} {rv : (Int32 × sg)} (hf : C_seal x1 x2 s = some rv) : mEnds [] 5 79 (0, [some (.ref 10), some (.int x1), some (.int x2), none, none, none, none, none], [], hp shC s, 0, 0) (some (.int rv.1), hp shC rv.2, 0, 0) := by
  unfold C_seal at hf
  refine mEnds.stp 3 (pc' := 4) (l' := [some (.ref 10), some (.int x1), some (.int x2), none, none, none, none, none]) (st' := [.int (nI 60), .int (nI 0), .int x1]) (fun _ => rfl) ?_
  obtain ⟨v1, hv1, hf⟩ := ob hf
  refine t_cs (as := [.int x1, .int (nI 0), .int (nI 60)]) (st := []) (Or.inl rfl) (rfl : mfetch 79 4 = some (4, .invokestatic 48, 3, 105, 0, 0)) rfl rfl rfl ((ok_C_within hv1).deep 4) ?_
  by_cases hc1 : v1 = 0
  · rw [if_pos hc1] at hf
    refine t_jT (t := 19) (rfl : mfetch 79 7 = some (7, .ifCond .eq 12, 3, 0, 0, 0)) rfl (k_eq hc1) ?_
    refine mEnds.stp 1 (pc' := 20) (l' := [some (.ref 10), some (.int x1), some (.int x2), none, none, none, none, none]) (st' := [.int (-1)]) (fun _ => rfl) ?_
    exact mEnds.rti (Option.some.inj hf) (fun _ => rfl)
  · rw [if_neg hc1] at hf
    refine t_jF (rfl : mfetch 79 7 = some (7, .ifCond .eq 12, 3, 0, 0, 0)) (k_eq' hc1) ?_
    refine mEnds.stp 3 (pc' := 13) (l' := [some (.ref 10), some (.int x1), some (.int x2), none, none, none, none, none]) (st' := [.int (nI 1), .int (nI 0), .int x2]) (fun _ => rfl) ?_
    obtain ⟨v2, hv2, hf⟩ := ob hf
    refine t_cs (as := [.int x2, .int (nI 0), .int (nI 1)]) (st := []) (Or.inl rfl) (rfl : mfetch 79 13 = some (13, .invokestatic 48, 3, 105, 0, 0)) rfl rfl rfl ((ok_C_within hv2).deep 4) ?_
    by_cases hc2 : v2 = 0
    · rw [if_pos hc2] at hf
      refine t_jF (rfl : mfetch 79 16 = some (16, .ifCond .ne 5, 3, 0, 0, 0)) (k_ne' hc2) ?_
      refine mEnds.stp 1 (pc' := 20) (l' := [some (.ref 10), some (.int x1), some (.int x2), none, none, none, none, none]) (st' := [.int (-1)]) (fun _ => rfl) ?_
      exact mEnds.rti (Option.some.inj hf) (fun _ => rfl)
    · rw [if_neg hc2] at hf
      refine t_jT (t := 21) (rfl : mfetch 79 16 = some (16, .ifCond .ne 5, 3, 0, 0, 0)) rfl (k_ne hc2) ?_
      refine mEnds.stp 3 (pc' := 25) (l' := [some (.ref 10), some (.int x1), some (.int x2), some (.int (-4)), none, none, none, none]) (st' := [.ref 10]) (fun _ => rfl) ?_
      obtain ⟨s1, hs1, hf⟩ := ob hf
      refine t_cv (as := []) (st := []) (rfl : mfetch 79 25 = some (25, .invokevirtual 167, 3, 109, 0, 0)) rfl rfl rfl rfl rfl ((ok_C_copyOfNow hs1).deep 3) ?_
      refine mEnds.stp 1 (pc' := 29) (l' := [some (.ref 10), some (.int x1), some (.int x2), some (.int (-4)), none, none, none, none]) (st' := [.int x1, .ref 53]) (fun _ => rfl) ?_
      obtain ⟨v4, hv4, hf⟩ := ob hf
      refine t_cv (as := [.int x1]) (st := []) (rfl : mfetch 79 29 = some (29, .invokevirtual 161, 3, 22, 0, 0)) rfl rfl rfl rfl rfl (ok_H_passHours isH_53 hv4) ?_
      refine mEnds.stp 3 (pc' := 37) (l' := [some (.ref 10), some (.int x1), some (.int x2), some (.int (-4)), some (.int v4.1), some (.int (nI 0)), none, none]) (st' := []) (fun _ => rfl) ?_
      refine mEnds.cut (l := [some (.ref 10), some (.int x1), some (.int x2), some (.int (-4)), some (.int v4.1), some (.int (nI 0)), none, none]) ⟨rfl, ⟨rfl, ⟨rfl, ⟨rfl, ⟨rfl, ⟨rfl, trivial⟩⟩⟩⟩⟩⟩ ?_
      exact ok_C_seal_37 FU (-4) v4.1 (nI 0) v4.2 _ hf
