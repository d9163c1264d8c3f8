section Q30f
def C_ahead (x1 : Int32) (x2 : Int32) (x3 : Int32) (s : sg) : Option (Int32 × sg) :=
  (H_hasRoom 11 x1 s).bind fun v1 =>
  if v1 = 0 then
    some ((-1), s)
  else
    (C_within x2 (nI 0) (nI 60) s).bind fun v2 =>
    if v2 = 0 then
      some ((-1), s)
    else
      (C_within x3 (nI 0) (nI 1) s).bind fun v3 =>
      if v3 = 0 then
        some ((-1), s)
      else
        (C_copyOfNow s).bind fun s1 =>
        (H_passHours 53 x2 s1).bind fun v5 =>
        if x3 = 0 then
          (midx x1 6).bind fun j1 =>
          some (v5.2 54 j1, v5.2)
        else
          (H_isOn 53 x1 v5.2).bind fun v6 =>
          if v6 = 0 then
            some (nI 0, v5.2)
          else
            some (nI 1, v5.2)
set_option maxRecDepth 100000 in
theorem ok_C_ahead {x1 : Int32} {x2 : Int32} {x3 : Int32} {s : sg} {rv : (Int32 × sg)} (hf : C_ahead x1 x2 x3 s = some rv) : mEnds [] 5 73 (0, [some (.ref 10), some (.int x1), some (.int x2), some (.int x3), none], [], hp shC s, 0, 0) (some (.int rv.1), hp shC rv.2, 0, 0) := by
  unfold C_ahead at hf
  refine mEnds.stp 1 (pc' := 1) (l' := [some (.ref 10), some (.int x1), some (.int x2), some (.int x3), none]) (st' := [.ref 10]) (fun _ => rfl) ?_
  refine t_gr (rfl : mfetch 73 1 = some (1, .getfield 10, 3, 4, 0, 0)) rfl rfl ?_
  refine mEnds.stp 1 (pc' := 5) (l' := [some (.ref 10), some (.int x1), some (.int x2), some (.int x3), none]) (st' := [.int x1, .ref 11]) (fun _ => rfl) ?_
  obtain ⟨v1, hv1, hf⟩ := ob hf
  refine t_cv (as := [.int x1]) (st := []) (rfl : mfetch 73 5 = some (5, .invokevirtual 105, 3, 8, 0, 0)) rfl rfl rfl rfl rfl ((ok_H_hasRoom isH_11 hv1).deep 4) ?_
  by_cases hc1 : v1 = 0
  · rw [if_pos hc1] at hf
    refine t_jT (t := 30) (rfl : mfetch 73 8 = some (8, .ifCond .eq 22, 3, 0, 0, 0)) rfl (k_eq hc1) ?_
    refine mEnds.stp 1 (pc' := 31) (l' := [some (.ref 10), some (.int x1), some (.int x2), some (.int x3), none]) (st' := [.int (-1)]) (fun _ => rfl) ?_
    exact mEnds.rti (Option.some.inj hf) (fun _ => rfl)
  · rw [if_neg hc1] at hf
    refine t_jF (rfl : mfetch 73 8 = some (8, .ifCond .eq 22, 3, 0, 0, 0)) (k_eq' hc1) ?_
    refine mEnds.stp 3 (pc' := 15) (l' := [some (.ref 10), some (.int x1), some (.int x2), some (.int x3), none]) (st' := [.int (nI 60), .int (nI 0), .int x2]) (fun _ => rfl) ?_
    obtain ⟨v2, hv2, hf⟩ := ob hf
    refine t_cs (as := [.int x2, .int (nI 0), .int (nI 60)]) (st := []) (Or.inl rfl) (rfl : mfetch 73 15 = some (15, .invokestatic 48, 3, 105, 0, 0)) rfl rfl rfl ((ok_C_within hv2).deep 4) ?_
    by_cases hc2 : v2 = 0
    · rw [if_pos hc2] at hf
      refine t_jT (t := 30) (rfl : mfetch 73 18 = some (18, .ifCond .eq 12, 3, 0, 0, 0)) rfl (k_eq hc2) ?_
      refine mEnds.stp 1 (pc' := 31) (l' := [some (.ref 10), some (.int x1), some (.int x2), some (.int x3), none]) (st' := [.int (-1)]) (fun _ => rfl) ?_
      exact mEnds.rti (Option.some.inj hf) (fun _ => rfl)
    · rw [if_neg hc2] at hf
      refine t_jF (rfl : mfetch 73 18 = some (18, .ifCond .eq 12, 3, 0, 0, 0)) (k_eq' hc2) ?_
      refine mEnds.stp 3 (pc' := 24) (l' := [some (.ref 10), some (.int x1), some (.int x2), some (.int x3), none]) (st' := [.int (nI 1), .int (nI 0), .int x3]) (fun _ => rfl) ?_
      obtain ⟨v3, hv3, hf⟩ := ob hf
      refine t_cs (as := [.int x3, .int (nI 0), .int (nI 1)]) (st := []) (Or.inl rfl) (rfl : mfetch 73 24 = some (24, .invokestatic 48, 3, 105, 0, 0)) rfl rfl rfl ((ok_C_within hv3).deep 4) ?_
      by_cases hc3 : v3 = 0
      · rw [if_pos hc3] at hf
        refine t_jF (rfl : mfetch 73 27 = some (27, .ifCond .ne 5, 3, 0, 0, 0)) (k_ne' hc3) ?_
        refine mEnds.stp 1 (pc' := 31) (l' := [some (.ref 10), some (.int x1), some (.int x2), some (.int x3), none]) (st' := [.int (-1)]) (fun _ => rfl) ?_
        exact mEnds.rti (Option.some.inj hf) (fun _ => rfl)
      · rw [if_neg hc3] at hf
        refine t_jT (t := 32) (rfl : mfetch 73 27 = some (27, .ifCond .ne 5, 3, 0, 0, 0)) rfl (k_ne hc3) ?_
        refine mEnds.stp 1 (pc' := 33) (l' := [some (.ref 10), some (.int x1), some (.int x2), some (.int x3), none]) (st' := [.ref 10]) (fun _ => rfl) ?_
        obtain ⟨s1, hs1, hf⟩ := ob hf
        refine t_cv (as := []) (st := []) (rfl : mfetch 73 33 = some (33, .invokevirtual 167, 3, 109, 0, 0)) rfl rfl rfl rfl rfl ((ok_C_copyOfNow hs1).deep 3) ?_
        refine mEnds.stp 3 (pc' := 41) (l' := [some (.ref 10), some (.int x1), some (.int x2), some (.int x3), some (.ref 53)]) (st' := [.int x2, .ref 53]) (fun _ => rfl) ?_
        obtain ⟨v5, hv5, hf⟩ := ob hf
        refine t_cv (as := [.int x2]) (st := []) (rfl : mfetch 73 41 = some (41, .invokevirtual 161, 3, 22, 0, 0)) rfl rfl rfl rfl rfl (ok_H_passHours isH_53 hv5) ?_
        refine mEnds.stp 2 (pc' := 46) (l' := [some (.ref 10), some (.int x1), some (.int x2), some (.int x3), some (.ref 53)]) (st' := [.int x3]) (fun _ => rfl) ?_
        by_cases hc4 : x3 = 0
        · rw [if_pos hc4] at hf
          refine t_jF (rfl : mfetch 73 46 = some (46, .ifCond .ne 11, 3, 0, 0, 0)) (k_ne' hc4) ?_
          refine mEnds.stp 1 (pc' := 51) (l' := [some (.ref 10), some (.int x1), some (.int x2), some (.int x3), some (.ref 53)]) (st' := [.ref 53]) (fun _ => rfl) ?_
          refine t_gr (rfl : mfetch 73 51 = some (51, .getfield 108, 3, 1, 5, 0)) rfl rfl ?_
          refine mEnds.stp 1 (pc' := 55) (l' := [some (.ref 10), some (.int x1), some (.int x2), some (.int x3), some (.ref 53)]) (st' := [.int x1, .ref 54]) (fun _ => rfl) ?_
          obtain ⟨j1, hj1, hf⟩ := ob hf
          refine t_ia (rfl : mfetch 73 55 = some (55, .iaload, 1, 0, 0, 0)) rfl rfl hj1 ?_
          exact mEnds.rti (Option.some.inj hf) (fun _ => rfl)
        · rw [if_neg hc4] at hf
          refine t_jT (t := 57) (rfl : mfetch 73 46 = some (46, .ifCond .ne 11, 3, 0, 0, 0)) rfl (k_ne hc4) ?_
          refine mEnds.stp 2 (pc' := 60) (l' := [some (.ref 10), some (.int x1), some (.int x2), some (.int x3), some (.ref 53)]) (st' := [.int x1, .ref 53]) (fun _ => rfl) ?_
          obtain ⟨v6, hv6, hf⟩ := ob hf
          refine t_cv (as := [.int x1]) (st := []) (rfl : mfetch 73 60 = some (60, .invokevirtual 118, 3, 11, 0, 0)) rfl rfl rfl rfl rfl ((ok_H_isOn isH_53 hv6).deep 4) ?_
          by_cases hc5 : v6 = 0
          · rw [if_pos hc5] at hf
            refine t_jT (t := 70) (rfl : mfetch 73 63 = some (63, .ifCond .eq 7, 3, 0, 0, 0)) rfl (k_eq hc5) ?_
            refine mEnds.stp 1 (pc' := 71) (l' := [some (.ref 10), some (.int x1), some (.int x2), some (.int x3), some (.ref 53)]) (st' := [.int (nI 0)]) (fun _ => rfl) ?_
            exact mEnds.rti (Option.some.inj hf) (fun _ => rfl)
          · rw [if_neg hc5] at hf
            refine t_jF (rfl : mfetch 73 63 = some (63, .ifCond .eq 7, 3, 0, 0, 0)) (k_eq' hc5) ?_
            refine mEnds.stp 2 (pc' := 71) (l' := [some (.ref 10), some (.int x1), some (.int x2), some (.int x3), some (.ref 53)]) (st' := [.int (nI 1)]) (fun _ => rfl) ?_
            exact mEnds.rti (Option.some.inj hf) (fun _ => rfl)
def C_cold_31 (x1 : Int32) (x2 : Int32) : Nat → Int32 → sg → Option (Int32 × sg)
  | 0, _, _ => none
  | fu + 1, x4, s =>
  if nI 60 < x4 then
    some ((-4), s)
  else
    (midx x1 6).bind fun j1 =>
    if x2 < s 54 j1 then
      (H_passHour 53 s).bind fun s1 =>
      C_cold_31 x1 x2 fu (x4 + (nI 1)) s1
    else
      some (x4, s)
set_option maxRecDepth 100000 in
theorem ok_C_cold_31 {x1 : Int32} {x2 : Int32} : ∀ (fu : Nat) (x4 : Int32) (s : sg) (rv : (Int32 × sg)), C_cold_31 x1 x2 fu x4 s = some rv → mEnds [] 4 74 (31, [none, some (.int x1), some (.int x2), some (.ref 53), some (.int x4)], [], hp shC s, 0, 0) (some (.int rv.1), hp shC rv.2, 0, 0)
  | 0, _, _, _, hf => by cases hf
  | fu + 1, x4, s, rv, hf => by
    rw [C_cold_31] at hf
    refine mEnds.stp 2 (pc' := 35) (l' := [none, some (.int x1), some (.int x2), some (.ref 53), some (.int x4)]) (st' := [.int (nI 60), .int x4]) (fun _ => rfl) ?_
    by_cases hc1 : nI 60 < x4
    · rw [if_pos hc1] at hf
      refine t_cT (t := 61) (rfl : mfetch 74 35 = some (35, .if_icmp .gt 26, 3, 0, 0, 0)) rfl (k_gt hc1) ?_
      refine mEnds.stp 1 (pc' := 63) (l' := [none, some (.int x1), some (.int x2), some (.ref 53), some (.int x4)]) (st' := [.int (-4)]) (fun _ => rfl) ?_
      exact mEnds.rti (Option.some.inj hf) (fun _ => rfl)
    · rw [if_neg hc1] at hf
      refine t_cF (rfl : mfetch 74 35 = some (35, .if_icmp .gt 26, 3, 0, 0, 0)) (k_gt' hc1) ?_
      refine mEnds.stp 1 (pc' := 39) (l' := [none, some (.int x1), some (.int x2), some (.ref 53), some (.int x4)]) (st' := [.ref 53]) (fun _ => rfl) ?_
      refine t_gr (rfl : mfetch 74 39 = some (39, .getfield 108, 3, 1, 5, 0)) rfl rfl ?_
      refine mEnds.stp 1 (pc' := 43) (l' := [none, some (.int x1), some (.int x2), some (.ref 53), some (.int x4)]) (st' := [.int x1, .ref 54]) (fun _ => rfl) ?_
      obtain ⟨j1, hj1, hf⟩ := ob hf
      refine t_ia (rfl : mfetch 74 43 = some (43, .iaload, 1, 0, 0, 0)) rfl rfl hj1 ?_
      refine mEnds.stp 1 (pc' := 45) (l' := [none, some (.int x1), some (.int x2), some (.ref 53), some (.int x4)]) (st' := [.int x2, .int (s 54 j1)]) (fun _ => rfl) ?_
      by_cases hc2 : x2 < s 54 j1
      · rw [if_pos hc2] at hf
        refine t_cT (t := 51) (rfl : mfetch 74 45 = some (45, .if_icmp .gt 6, 3, 0, 0, 0)) rfl (k_gt hc2) ?_
        refine mEnds.stp 1 (pc' := 52) (l' := [none, some (.int x1), some (.int x2), some (.ref 53), some (.int x4)]) (st' := [.ref 53]) (fun _ => rfl) ?_
        obtain ⟨s1, hs1, hf⟩ := ob hf
        refine t_cv (as := []) (st := []) (rfl : mfetch 74 52 = some (52, .invokevirtual 174, 3, 23, 0, 0)) rfl rfl rfl rfl rfl (ok_H_passHour isH_53 hs1) ?_
        refine mEnds.stp 2 (pc' := 31) (l' := [none, some (.int x1), some (.int x2), some (.ref 53), some (.int (x4 + (nI 1)))]) (st' := []) (fun _ => rfl) ?_
        refine mEnds.cut (l := [none, some (.int x1), some (.int x2), some (.ref 53), some (.int (x4 + (nI 1)))]) ⟨rfl, ⟨rfl, ⟨rfl, ⟨rfl, trivial⟩⟩⟩⟩ ?_
        exact ok_C_cold_31 fu (x4 + (nI 1)) s1 _ hf
      · rw [if_neg hc2] at hf
        refine t_cF (rfl : mfetch 74 45 = some (45, .if_icmp .gt 6, 3, 0, 0, 0)) (k_gt' hc2) ?_
        refine mEnds.stp 1 (pc' := 50) (l' := [none, some (.int x1), some (.int x2), some (.ref 53), some (.int x4)]) (st' := [.int x4]) (fun _ => rfl) ?_
        exact mEnds.rti (Option.some.inj hf) (fun _ => rfl)
def C_cold (x1 : Int32) (x2 : Int32) (s : sg) : Option (Int32 × sg) :=
  (H_hasRoom 11 x1 s).bind fun v1 =>
  if v1 = 0 then
    some ((-1), s)
  else
    (C_within x2 (nI 0) (nI 99) s).bind fun v2 =>
    if v2 = 0 then
      some ((-1), s)
    else
      (C_copyOfNow s).bind fun s1 =>
      C_cold_31 x1 x2 FU (nI 0) s1
set_option maxRecDepth 100000 in
theorem ok_C_cold {x1 : Int32} {x2 : Int32} {s : sg} {rv : (Int32 × sg)} (hf : C_cold x1 x2 s = some rv) : mEnds [] 4 74 (0, [some (.ref 10), some (.int x1), some (.int x2), none, none], [], hp shC s, 0, 0) (some (.int rv.1), hp shC rv.2, 0, 0) := by
  unfold C_cold at hf
  refine mEnds.stp 1 (pc' := 1) (l' := [some (.ref 10), some (.int x1), some (.int x2), none, none]) (st' := [.ref 10]) (fun _ => rfl) ?_
  refine t_gr (rfl : mfetch 74 1 = some (1, .getfield 10, 3, 4, 0, 0)) rfl rfl ?_
  refine mEnds.stp 1 (pc' := 5) (l' := [some (.ref 10), some (.int x1), some (.int x2), none, none]) (st' := [.int x1, .ref 11]) (fun _ => rfl) ?_
  obtain ⟨v1, hv1, hf⟩ := ob hf
  refine t_cv (as := [.int x1]) (st := []) (rfl : mfetch 74 5 = some (5, .invokevirtual 105, 3, 8, 0, 0)) rfl rfl rfl rfl rfl ((ok_H_hasRoom isH_11 hv1).deep 3) ?_
  by_cases hc1 : v1 = 0
  · rw [if_pos hc1] at hf
    refine t_jT (t := 21) (rfl : mfetch 74 8 = some (8, .ifCond .eq 13, 3, 0, 0, 0)) rfl (k_eq hc1) ?_
    refine mEnds.stp 1 (pc' := 22) (l' := [some (.ref 10), some (.int x1), some (.int x2), none, none]) (st' := [.int (-1)]) (fun _ => rfl) ?_
    exact mEnds.rti (Option.some.inj hf) (fun _ => rfl)
  · rw [if_neg hc1] at hf
    refine t_jF (rfl : mfetch 74 8 = some (8, .ifCond .eq 13, 3, 0, 0, 0)) (k_eq' hc1) ?_
    refine mEnds.stp 3 (pc' := 15) (l' := [some (.ref 10), some (.int x1), some (.int x2), none, none]) (st' := [.int (nI 99), .int (nI 0), .int x2]) (fun _ => rfl) ?_
    obtain ⟨v2, hv2, hf⟩ := ob hf
    refine t_cs (as := [.int x2, .int (nI 0), .int (nI 99)]) (st := []) (Or.inl rfl) (rfl : mfetch 74 15 = some (15, .invokestatic 48, 3, 105, 0, 0)) rfl rfl rfl ((ok_C_within hv2).deep 3) ?_
    by_cases hc2 : v2 = 0
    · rw [if_pos hc2] at hf
      refine t_jF (rfl : mfetch 74 18 = some (18, .ifCond .ne 5, 3, 0, 0, 0)) (k_ne' hc2) ?_
      refine mEnds.stp 1 (pc' := 22) (l' := [some (.ref 10), some (.int x1), some (.int x2), none, none]) (st' := [.int (-1)]) (fun _ => rfl) ?_
      exact mEnds.rti (Option.some.inj hf) (fun _ => rfl)
    · rw [if_neg hc2] at hf
      refine t_jT (t := 23) (rfl : mfetch 74 18 = some (18, .ifCond .ne 5, 3, 0, 0, 0)) rfl (k_ne hc2) ?_
      refine mEnds.stp 1 (pc' := 24) (l' := [some (.ref 10), some (.int x1), some (.int x2), none, none]) (st' := [.ref 10]) (fun _ => rfl) ?_
      obtain ⟨s1, hs1, hf⟩ := ob hf
      refine t_cv (as := []) (st := []) (rfl : mfetch 74 24 = some (24, .invokevirtual 167, 3, 109, 0, 0)) rfl rfl rfl rfl rfl ((ok_C_copyOfNow hs1).deep 2) ?_
      refine mEnds.stp 3 (pc' := 31) (l' := [some (.ref 10), some (.int x1), some (.int x2), some (.ref 53), some (.int (nI 0))]) (st' := []) (fun _ => rfl) ?_
      refine mEnds.cut (l := [none, some (.int x1), some (.int x2), some (.ref 53), some (.int (nI 0))]) ⟨rfl, ⟨rfl, ⟨rfl, ⟨rfl, trivial⟩⟩⟩⟩ ?_
      exact ok_C_cold_31 FU (nI 0) s1 _ hf
def C_again_8 : Nat → Int32 → sg → Option (Int32 × sg)
  | 0, _, _ => none
  | fu + 1, x2, s =>
  if nI 56 < x2 then
    some ((-4), s)
  else
    (H_passHours 53 (nI 8) s).bind fun v1 =>
    (H_isLike 53 11 v1.2).bind fun v2 =>
    if v2 = 0 then
      C_again_8 fu (x2 + (nI 8)) v1.2
    else
      some (x2, v1.2)
set_option maxRecDepth 100000 in
theorem ok_C_again_8 : ∀ (fu : Nat) (x2 : Int32) (s : sg) (rv : (Int32 × sg)), C_again_8 fu x2 s = some rv → mEnds [] 5 75 (8, [some (.ref 10), some (.ref 53), some (.int x2)], [], hp shC s, 0, 0) (some (.int rv.1), hp shC rv.2, 0, 0)
  | 0, _, _, _, hf => by cases hf
  | fu + 1, x2, s, rv, hf => by
    rw [C_again_8] at hf
    refine mEnds.stp 2 (pc' := 11) (l' := [some (.ref 10), some (.ref 53), some (.int x2)]) (st' := [.int (nI 56), .int x2]) (fun _ => rfl) ?_
    by_cases hc1 : nI 56 < x2
    · rw [if_pos hc1] at hf
      refine t_cT (t := 40) (rfl : mfetch 75 11 = some (11, .if_icmp .gt 29, 3, 0, 0, 0)) rfl (k_gt hc1) ?_
      refine mEnds.stp 1 (pc' := 42) (l' := [some (.ref 10), some (.ref 53), some (.int x2)]) (st' := [.int (-4)]) (fun _ => rfl) ?_
      exact mEnds.rti (Option.some.inj hf) (fun _ => rfl)
    · rw [if_neg hc1] at hf
      refine t_cF (rfl : mfetch 75 11 = some (11, .if_icmp .gt 29, 3, 0, 0, 0)) (k_gt' hc1) ?_
      refine mEnds.stp 2 (pc' := 17) (l' := [some (.ref 10), some (.ref 53), some (.int x2)]) (st' := [.int (nI 8), .ref 53]) (fun _ => rfl) ?_
      obtain ⟨v1, hv1, hf⟩ := ob hf
      refine t_cv (as := [.int (nI 8)]) (st := []) (rfl : mfetch 75 17 = some (17, .invokevirtual 161, 3, 22, 0, 0)) rfl rfl rfl rfl rfl (ok_H_passHours isH_53 hv1) ?_
      refine mEnds.stp 3 (pc' := 23) (l' := [some (.ref 10), some (.ref 53), some (.int x2)]) (st' := [.ref 10, .ref 53]) (fun _ => rfl) ?_
      refine t_gr (rfl : mfetch 75 23 = some (23, .getfield 10, 3, 4, 0, 0)) rfl rfl ?_
      obtain ⟨v2, hv2, hf⟩ := ob hf
      refine t_cv (as := [.ref 11]) (st := []) (rfl : mfetch 75 26 = some (26, .invokevirtual 182, 3, 17, 0, 0)) rfl rfl rfl rfl rfl ((ok_H_isLike isH_53 isH_11 hv2).deep 4) ?_
      by_cases hc2 : v2 = 0
      · rw [if_pos hc2] at hf
        refine t_jT (t := 34) (rfl : mfetch 75 29 = some (29, .ifCond .eq 5, 3, 0, 0, 0)) rfl (k_eq hc2) ?_
        refine mEnds.stp 2 (pc' := 8) (l' := [some (.ref 10), some (.ref 53), some (.int (x2 + (nI 8)))]) (st' := []) (fun _ => rfl) ?_
        refine mEnds.cut (l := [some (.ref 10), some (.ref 53), some (.int (x2 + (nI 8)))]) ⟨rfl, ⟨rfl, ⟨rfl, trivial⟩⟩⟩ ?_
        exact ok_C_again_8 fu (x2 + (nI 8)) v1.2 _ hf
      · rw [if_neg hc2] at hf
        refine t_jF (rfl : mfetch 75 29 = some (29, .ifCond .eq 5, 3, 0, 0, 0)) (k_eq' hc2) ?_
        refine mEnds.stp 1 (pc' := 33) (l' := [some (.ref 10), some (.ref 53), some (.int x2)]) (st' := [.int x2]) (fun _ => rfl) ?_
        exact mEnds.rti (Option.some.inj hf) (fun _ => rfl)
def C_again (s : sg) : Option (Int32 × sg) :=
  (C_copyOfNow s).bind fun s1 =>
  C_again_8 FU (nI 8) s1
set_option maxRecDepth 100000 in
theorem ok_C_again {s : sg} {rv : (Int32 × sg)} (hf : C_again s = some rv) : mEnds [] 5 75 (0, [some (.ref 10), none, none], [], hp shC s, 0, 0) (some (.int rv.1), hp shC rv.2, 0, 0) := by
  unfold C_again at hf
  refine mEnds.stp 1 (pc' := 1) (l' := [some (.ref 10), none, none]) (st' := [.ref 10]) (fun _ => rfl) ?_
  obtain ⟨s1, hs1, hf⟩ := ob hf
  refine t_cv (as := []) (st := []) (rfl : mfetch 75 1 = some (1, .invokevirtual 167, 3, 109, 0, 0)) rfl rfl rfl rfl rfl ((ok_C_copyOfNow hs1).deep 3) ?_
  refine mEnds.stp 3 (pc' := 8) (l' := [some (.ref 10), some (.ref 53), some (.int (nI 8))]) (st' := []) (fun _ => rfl) ?_
  refine mEnds.cut (l := [some (.ref 10), some (.ref 53), some (.int (nI 8))]) ⟨rfl, ⟨rfl, ⟨rfl, trivial⟩⟩⟩ ?_
  exact ok_C_again_8 FU (nI 8) s1 _ hf
def C_need_50 (x1 : Int32) (x2 : Int32) (x3 : Int32) : Nat → Int32 → sg → Option (Int32 × sg)
  | 0, _, _ => none
  | fu + 1, x4, s =>
  if nI 99 < x4 then
    some ((-4), s)
  else
    (C_copyOfNow s).bind fun s1 =>
    (midx x1 6).bind fun j1 =>
    (some (up s1 58 j1 x4)).bind fun s2 =>
    (H_staysWarm 53 x1 x2 x3 s2).bind fun v2 =>
    if v2.1 = 0 then
      C_need_50 x1 x2 x3 fu (x4 + (nI 1)) v2.2
    else
      some (x4, v2.2)
set_option maxRecDepth 100000 in
theorem ok_C_need_50 {x1 : Int32} {x2 : Int32} {x3 : Int32} : ∀ (fu : Nat) (x4 : Int32) (s : sg) (rv : (Int32 × sg)), C_need_50 x1 x2 x3 fu x4 s = some rv → mEnds [] 5 76 (50, [some (.ref 10), some (.int x1), some (.int x2), some (.int x3), some (.int x4), none], [], hp shC s, 0, 0) (some (.int rv.1), hp shC rv.2, 0, 0)
  | 0, _, _, _, hf => by cases hf
  | fu + 1, x4, s, rv, hf => by
    rw [C_need_50] at hf
    refine mEnds.stp 2 (pc' := 54) (l' := [some (.ref 10), some (.int x1), some (.int x2), some (.int x3), some (.int x4), none]) (st' := [.int (nI 99), .int x4]) (fun _ => rfl) ?_
    by_cases hc1 : nI 99 < x4
    · rw [if_pos hc1] at hf
      refine t_cT (t := 92) (rfl : mfetch 76 54 = some (54, .if_icmp .gt 38, 3, 0, 0, 0)) rfl (k_gt hc1) ?_
      refine mEnds.stp 1 (pc' := 94) (l' := [some (.ref 10), some (.int x1), some (.int x2), some (.int x3), some (.int x4), none]) (st' := [.int (-4)]) (fun _ => rfl) ?_
      exact mEnds.rti (Option.some.inj hf) (fun _ => rfl)
    · rw [if_neg hc1] at hf
      refine t_cF (rfl : mfetch 76 54 = some (54, .if_icmp .gt 38, 3, 0, 0, 0)) (k_gt' hc1) ?_
      refine mEnds.stp 1 (pc' := 58) (l' := [some (.ref 10), some (.int x1), some (.int x2), some (.int x3), some (.int x4), none]) (st' := [.ref 10]) (fun _ => rfl) ?_
      obtain ⟨s1, hs1, hf⟩ := ob hf
      refine t_cv (as := []) (st := []) (rfl : mfetch 76 58 = some (58, .invokevirtual 167, 3, 109, 0, 0)) rfl rfl rfl rfl rfl ((ok_C_copyOfNow hs1).deep 3) ?_
      refine mEnds.stp 2 (pc' := 65) (l' := [some (.ref 10), some (.int x1), some (.int x2), some (.int x3), some (.int x4), some (.ref 53)]) (st' := [.ref 53]) (fun _ => rfl) ?_
      refine t_gr (rfl : mfetch 76 65 = some (65, .getfield 131, 3, 1, 9, 0)) rfl rfl ?_
      refine mEnds.stp 2 (pc' := 71) (l' := [some (.ref 10), some (.int x1), some (.int x2), some (.int x3), some (.int x4), some (.ref 53)]) (st' := [.int x4, .int x1, .ref 58]) (fun _ => rfl) ?_
      obtain ⟨j1, hj1, hf⟩ := ob hf
      obtain ⟨s2, hs2, hf⟩ := ob hf
      refine t_is (rfl : mfetch 76 71 = some (71, .iastore, 1, 0, 0, 0)) rfl rfl hj1 hs2 ?_
      refine mEnds.stp 4 (pc' := 77) (l' := [some (.ref 10), some (.int x1), some (.int x2), some (.int x3), some (.int x4), some (.ref 53)]) (st' := [.int x3, .int x2, .int x1, .ref 53]) (fun _ => rfl) ?_
      obtain ⟨v2, hv2, hf⟩ := ob hf
      refine t_cv (as := [.int x1, .int x2, .int x3]) (st := []) (rfl : mfetch 76 77 = some (77, .invokevirtual 186, 3, 27, 0, 0)) rfl rfl rfl rfl rfl (ok_H_staysWarm isH_53 hv2) ?_
      by_cases hc2 : v2.1 = 0
      · rw [if_pos hc2] at hf
        refine t_jT (t := 86) (rfl : mfetch 76 80 = some (80, .ifCond .eq 6, 3, 0, 0, 0)) rfl (k_eq hc2) ?_
        refine mEnds.stp 2 (pc' := 50) (l' := [some (.ref 10), some (.int x1), some (.int x2), some (.int x3), some (.int (x4 + (nI 1))), some (.ref 53)]) (st' := []) (fun _ => rfl) ?_
        refine mEnds.cut (l := [some (.ref 10), some (.int x1), some (.int x2), some (.int x3), some (.int (x4 + (nI 1))), none]) ⟨rfl, ⟨rfl, ⟨rfl, ⟨rfl, ⟨rfl, trivial⟩⟩⟩⟩⟩ ?_
        exact ok_C_need_50 fu (x4 + (nI 1)) v2.2 _ hf
      · rw [if_neg hc2] at hf
        refine t_jF (rfl : mfetch 76 80 = some (80, .ifCond .eq 6, 3, 0, 0, 0)) (k_eq' hc2) ?_
        refine mEnds.stp 1 (pc' := 85) (l' := [some (.ref 10), some (.int x1), some (.int x2), some (.int x3), some (.int x4), some (.ref 53)]) (st' := [.int x4]) (fun _ => rfl) ?_
        exact mEnds.rti (Option.some.inj hf) (fun _ => rfl)
def C_need (x1 : Int32) (x2 : Int32) (x3 : Int32) (s : sg) : Option (Int32 × sg) :=
  (H_hasRoom 11 x1 s).bind fun v1 =>
  if v1 = 0 then
    some ((-1), s)
  else
    (C_within x2 (nI 1) (nI 60) s).bind fun v2 =>
    if v2 = 0 then
      some ((-1), s)
    else
      (C_within x3 (nI 0) (nI 99) s).bind fun v3 =>
      if v3 = 0 then
        some ((-1), s)
      else
        (H_hasTongue 11 x1 s).bind fun v4 =>
        if v4 = 0 then
          some ((-2), s)
        else
          C_need_50 x1 x2 x3 FU (nI 0) s
set_option maxRecDepth 100000 in
theorem ok_C_need {x1 : Int32} {x2 : Int32} {x3 : Int32} {s : sg} {rv : (Int32 × sg)} (hf : C_need x1 x2 x3 s = some rv) : mEnds [] 5 76 (0, [some (.ref 10), some (.int x1), some (.int x2), some (.int x3), none, none], [], hp shC s, 0, 0) (some (.int rv.1), hp shC rv.2, 0, 0) := by
  unfold C_need at hf
  refine mEnds.stp 1 (pc' := 1) (l' := [some (.ref 10), some (.int x1), some (.int x2), some (.int x3), none, none]) (st' := [.ref 10]) (fun _ => rfl) ?_
  refine t_gr (rfl : mfetch 76 1 = some (1, .getfield 10, 3, 4, 0, 0)) rfl rfl ?_
  refine mEnds.stp 1 (pc' := 5) (l' := [some (.ref 10), some (.int x1), some (.int x2), some (.int x3), none, none]) (st' := [.int x1, .ref 11]) (fun _ => rfl) ?_
  obtain ⟨v1, hv1, hf⟩ := ob hf
  refine t_cv (as := [.int x1]) (st := []) (rfl : mfetch 76 5 = some (5, .invokevirtual 105, 3, 8, 0, 0)) rfl rfl rfl rfl rfl ((ok_H_hasRoom isH_11 hv1).deep 4) ?_
  by_cases hc1 : v1 = 0
  · rw [if_pos hc1] at hf
    refine t_jT (t := 31) (rfl : mfetch 76 8 = some (8, .ifCond .eq 23, 3, 0, 0, 0)) rfl (k_eq hc1) ?_
    refine mEnds.stp 1 (pc' := 32) (l' := [some (.ref 10), some (.int x1), some (.int x2), some (.int x3), none, none]) (st' := [.int (-1)]) (fun _ => rfl) ?_
    exact mEnds.rti (Option.some.inj hf) (fun _ => rfl)
  · rw [if_neg hc1] at hf
    refine t_jF (rfl : mfetch 76 8 = some (8, .ifCond .eq 23, 3, 0, 0, 0)) (k_eq' hc1) ?_
    refine mEnds.stp 3 (pc' := 15) (l' := [some (.ref 10), some (.int x1), some (.int x2), some (.int x3), none, none]) (st' := [.int (nI 60), .int (nI 1), .int x2]) (fun _ => rfl) ?_
    obtain ⟨v2, hv2, hf⟩ := ob hf
    refine t_cs (as := [.int x2, .int (nI 1), .int (nI 60)]) (st := []) (Or.inl rfl) (rfl : mfetch 76 15 = some (15, .invokestatic 48, 3, 105, 0, 0)) rfl rfl rfl ((ok_C_within hv2).deep 4) ?_
    by_cases hc2 : v2 = 0
    · rw [if_pos hc2] at hf
      refine t_jT (t := 31) (rfl : mfetch 76 18 = some (18, .ifCond .eq 13, 3, 0, 0, 0)) rfl (k_eq hc2) ?_
      refine mEnds.stp 1 (pc' := 32) (l' := [some (.ref 10), some (.int x1), some (.int x2), some (.int x3), none, none]) (st' := [.int (-1)]) (fun _ => rfl) ?_
      exact mEnds.rti (Option.some.inj hf) (fun _ => rfl)
    · rw [if_neg hc2] at hf
      refine t_jF (rfl : mfetch 76 18 = some (18, .ifCond .eq 13, 3, 0, 0, 0)) (k_eq' hc2) ?_
      refine mEnds.stp 3 (pc' := 25) (l' := [some (.ref 10), some (.int x1), some (.int x2), some (.int x3), none, none]) (st' := [.int (nI 99), .int (nI 0), .int x3]) (fun _ => rfl) ?_
      obtain ⟨v3, hv3, hf⟩ := ob hf
      refine t_cs (as := [.int x3, .int (nI 0), .int (nI 99)]) (st := []) (Or.inl rfl) (rfl : mfetch 76 25 = some (25, .invokestatic 48, 3, 105, 0, 0)) rfl rfl rfl ((ok_C_within hv3).deep 4) ?_
      by_cases hc3 : v3 = 0
      · rw [if_pos hc3] at hf
        refine t_jF (rfl : mfetch 76 28 = some (28, .ifCond .ne 5, 3, 0, 0, 0)) (k_ne' hc3) ?_
        refine mEnds.stp 1 (pc' := 32) (l' := [some (.ref 10), some (.int x1), some (.int x2), some (.int x3), none, none]) (st' := [.int (-1)]) (fun _ => rfl) ?_
        exact mEnds.rti (Option.some.inj hf) (fun _ => rfl)
      · rw [if_neg hc3] at hf
        refine t_jT (t := 33) (rfl : mfetch 76 28 = some (28, .ifCond .ne 5, 3, 0, 0, 0)) rfl (k_ne hc3) ?_
        refine mEnds.stp 1 (pc' := 34) (l' := [some (.ref 10), some (.int x1), some (.int x2), some (.int x3), none, none]) (st' := [.ref 10]) (fun _ => rfl) ?_
        refine t_gr (rfl : mfetch 76 34 = some (34, .getfield 10, 3, 4, 0, 0)) rfl rfl ?_
        refine mEnds.stp 1 (pc' := 38) (l' := [some (.ref 10), some (.int x1), some (.int x2), some (.int x3), none, none]) (st' := [.int x1, .ref 11]) (fun _ => rfl) ?_
        obtain ⟨v4, hv4, hf⟩ := ob hf
        refine t_cv (as := [.int x1]) (st := []) (rfl : mfetch 76 38 = some (38, .invokevirtual 121, 3, 10, 0, 0)) rfl rfl rfl rfl rfl ((ok_H_hasTongue isH_11 hv4).deep 4) ?_
        by_cases hc4 : v4 = 0
        · rw [if_pos hc4] at hf
          refine t_jF (rfl : mfetch 76 41 = some (41, .ifCond .ne 6, 3, 0, 0, 0)) (k_ne' hc4) ?_
          refine mEnds.stp 1 (pc' := 46) (l' := [some (.ref 10), some (.int x1), some (.int x2), some (.int x3), none, none]) (st' := [.int (-2)]) (fun _ => rfl) ?_
          exact mEnds.rti (Option.some.inj hf) (fun _ => rfl)
        · rw [if_neg hc4] at hf
          refine t_jT (t := 47) (rfl : mfetch 76 41 = some (41, .ifCond .ne 6, 3, 0, 0, 0)) rfl (k_ne hc4) ?_
          refine mEnds.stp 2 (pc' := 50) (l' := [some (.ref 10), some (.int x1), some (.int x2), some (.int x3), some (.int (nI 0)), none]) (st' := []) (fun _ => rfl) ?_
          refine mEnds.cut (l := [some (.ref 10), some (.int x1), some (.int x2), some (.int x3), some (.int (nI 0)), none]) ⟨rfl, ⟨rfl, ⟨rfl, ⟨rfl, ⟨rfl, trivial⟩⟩⟩⟩⟩ ?_
          exact ok_C_need_50 FU (nI 0) s _ hf
def C_chosen (x0 : Int32) (x1 : Int32) (x2 : Int32) (s : sg) : Option Int32 :=
  if x0 = (-4) then
    some (-4)
  else
    if x2 = 0 then
      some x0
    else
      some x1
set_option maxRecDepth 100000 in
theorem ok_C_chosen {x0 : Int32} {x1 : Int32} {x2 : Int32} {s : sg} {rv : Int32} (hf : C_chosen x0 x1 x2 s = some rv) : mEnds [] 0 108 (0, [some (.int x0), some (.int x1), some (.int x2)], [], hp shC s, 0, 0) (some (.int rv), hp shC s, 0, 0) := by
  unfold C_chosen at hf
  refine mEnds.stp 2 (pc' := 3) (l' := [some (.int x0), some (.int x1), some (.int x2)]) (st' := [.int (-4), .int x0]) (fun _ => rfl) ?_
  by_cases hc1 : x0 = (-4)
  · rw [if_pos hc1] at hf
    refine t_cF (rfl : mfetch 108 3 = some (3, .if_icmp .ne 6, 3, 0, 0, 0)) (k_ne' hc1) ?_
    refine mEnds.stp 1 (pc' := 8) (l' := [some (.int x0), some (.int x1), some (.int x2)]) (st' := [.int (-4)]) (fun _ => rfl) ?_
    cases hf; exact mEnds.rt (fun _ => rfl)
  · rw [if_neg hc1] at hf
    refine t_cT (t := 9) (rfl : mfetch 108 3 = some (3, .if_icmp .ne 6, 3, 0, 0, 0)) rfl (k_ne hc1) ?_
    refine mEnds.stp 1 (pc' := 10) (l' := [some (.int x0), some (.int x1), some (.int x2)]) (st' := [.int x2]) (fun _ => rfl) ?_
    by_cases hc2 : x2 = 0
    · rw [if_pos hc2] at hf
      refine t_jF (rfl : mfetch 108 10 = some (10, .ifCond .ne 7, 3, 0, 0, 0)) (k_ne' hc2) ?_
      refine mEnds.stp 2 (pc' := 18) (l' := [some (.int x0), some (.int x1), some (.int x2)]) (st' := [.int x0]) (fun _ => rfl) ?_
      cases hf; exact mEnds.rt (fun _ => rfl)
    · rw [if_neg hc2] at hf
      refine t_jT (t := 17) (rfl : mfetch 108 10 = some (10, .ifCond .ne 7, 3, 0, 0, 0)) rfl (k_ne hc2) ?_
      refine mEnds.stp 1 (pc' := 18) (l' := [some (.int x0), some (.int x1), some (.int x2)]) (st' := [.int x1]) (fun _ => rfl) ?_
      cases hf; exact mEnds.rt (fun _ => rfl)
def C_kind_58 (x1 : Int32) (x2 : Int32) (x3 : Int32) : Nat → Int32 → Int32 → Int32 → sg → Option (Int32 × sg)
  | 0, _, _, _, _ => none
  | fu + 1, x4, x5, x6, s =>
  if nI 3 < x6 then
    (C_chosen x4 x5 x3 s).bind fun v1 =>
    some (v1, s)
  else
    (C_copyOfNow s).bind fun s1 =>
    (midx x1 6).bind fun j1 =>
    (some (up s1 57 j1 x6)).bind fun s2 =>
    (H_passHours 53 x2 s2).bind fun v3 =>
    if v3.1 < x5 then
      C_kind_58 x1 x2 x3 fu x6 v3.1 (x6 + (nI 1)) v3.2
    else
      C_kind_58 x1 x2 x3 fu x4 x5 (x6 + (nI 1)) v3.2
set_option maxRecDepth 100000 in
theorem ok_C_kind_58 {x1 : Int32} {x2 : Int32} {x3 : Int32} : ∀ (fu : Nat) (x4 : Int32) (x5 : Int32) (x6 : Int32) (s : sg) (rv : (Int32 × sg)), C_kind_58 x1 x2 x3 fu x4 x5 x6 s = some rv → mEnds [] 5 77 (58, [some (.ref 10), some (.int x1), some (.int x2), some (.int x3), some (.int x4), some (.int x5), some (.int x6), none, none], [], hp shC s, 0, 0) (some (.int rv.1), hp shC rv.2, 0, 0)
  | 0, _, _, _, _, _, hf => by cases hf
  | fu + 1, x4, x5, x6, s, rv, hf => by
    rw [C_kind_58] at hf
    refine mEnds.stp 2 (pc' := 61) (l' := [some (.ref 10), some (.int x1), some (.int x2), some (.int x3), some (.int x4), some (.int x5), some (.int x6), none, none]) (st' := [.int (nI 3), .int x6]) (fun _ => rfl) ?_
    by_cases hc1 : nI 3 < x6
    · rw [if_pos hc1] at hf
      refine t_cT (t := 108) (rfl : mfetch 77 61 = some (61, .if_icmp .gt 47, 3, 0, 0, 0)) rfl (k_gt hc1) ?_
      refine mEnds.stp 3 (pc' := 113) (l' := [some (.ref 10), some (.int x1), some (.int x2), some (.int x3), some (.int x4), some (.int x5), some (.int x6), none, none]) (st' := [.int x3, .int x5, .int x4]) (fun _ => rfl) ?_
      obtain ⟨v1, hv1, hf⟩ := ob hf
      refine t_cs (as := [.int x4, .int x5, .int x3]) (st := []) (Or.inl rfl) (rfl : mfetch 77 113 = some (113, .invokestatic 189, 3, 108, 0, 0)) rfl rfl rfl ((ok_C_chosen hv1).deep 4) ?_
      exact mEnds.rti (Option.some.inj hf) (fun _ => rfl)
    · rw [if_neg hc1] at hf
      refine t_cF (rfl : mfetch 77 61 = some (61, .if_icmp .gt 47, 3, 0, 0, 0)) (k_gt' hc1) ?_
      refine mEnds.stp 1 (pc' := 65) (l' := [some (.ref 10), some (.int x1), some (.int x2), some (.int x3), some (.int x4), some (.int x5), some (.int x6), none, none]) (st' := [.ref 10]) (fun _ => rfl) ?_
      obtain ⟨s1, hs1, hf⟩ := ob hf
      refine t_cv (as := []) (st := []) (rfl : mfetch 77 65 = some (65, .invokevirtual 167, 3, 109, 0, 0)) rfl rfl rfl rfl rfl ((ok_C_copyOfNow hs1).deep 3) ?_
      refine mEnds.stp 2 (pc' := 72) (l' := [some (.ref 10), some (.int x1), some (.int x2), some (.int x3), some (.int x4), some (.int x5), some (.int x6), some (.ref 53), none]) (st' := [.ref 53]) (fun _ => rfl) ?_
      refine t_gr (rfl : mfetch 77 72 = some (72, .getfield 128, 3, 1, 8, 0)) rfl rfl ?_
      refine mEnds.stp 2 (pc' := 78) (l' := [some (.ref 10), some (.int x1), some (.int x2), some (.int x3), some (.int x4), some (.int x5), some (.int x6), some (.ref 53), none]) (st' := [.int x6, .int x1, .ref 57]) (fun _ => rfl) ?_
      obtain ⟨j1, hj1, hf⟩ := ob hf
      obtain ⟨s2, hs2, hf⟩ := ob hf
      refine t_is (rfl : mfetch 77 78 = some (78, .iastore, 1, 0, 0, 0)) rfl rfl hj1 hs2 ?_
      refine mEnds.stp 2 (pc' := 82) (l' := [some (.ref 10), some (.int x1), some (.int x2), some (.int x3), some (.int x4), some (.int x5), some (.int x6), some (.ref 53), none]) (st' := [.int x2, .ref 53]) (fun _ => rfl) ?_
      obtain ⟨v3, hv3, hf⟩ := ob hf
      refine t_cv (as := [.int x2]) (st := []) (rfl : mfetch 77 82 = some (82, .invokevirtual 161, 3, 22, 0, 0)) rfl rfl rfl rfl rfl (ok_H_passHours isH_53 hv3) ?_
      refine mEnds.stp 3 (pc' := 91) (l' := [some (.ref 10), some (.int x1), some (.int x2), some (.int x3), some (.int x4), some (.int x5), some (.int x6), some (.ref 53), some (.int v3.1)]) (st' := [.int x5, .int v3.1]) (fun _ => rfl) ?_
      by_cases hc2 : v3.1 < x5
      · rw [if_pos hc2] at hf
        refine t_cF (rfl : mfetch 77 91 = some (91, .if_icmp .ge 11, 3, 0, 0, 0)) (k_ge' hc2) ?_
        refine mEnds.stp 6 (pc' := 58) (l' := [some (.ref 10), some (.int x1), some (.int x2), some (.int x3), some (.int x6), some (.int v3.1), some (.int (x6 + (nI 1))), some (.ref 53), some (.int v3.1)]) (st' := []) (fun _ => rfl) ?_
        refine mEnds.cut (l := [some (.ref 10), some (.int x1), some (.int x2), some (.int x3), some (.int x6), some (.int v3.1), some (.int (x6 + (nI 1))), none, none]) ⟨rfl, ⟨rfl, ⟨rfl, ⟨rfl, ⟨rfl, ⟨rfl, ⟨rfl, trivial⟩⟩⟩⟩⟩⟩⟩ ?_
        exact ok_C_kind_58 fu x6 v3.1 (x6 + (nI 1)) v3.2 _ hf
      · rw [if_neg hc2] at hf
        refine t_cT (t := 102) (rfl : mfetch 77 91 = some (91, .if_icmp .ge 11, 3, 0, 0, 0)) rfl (k_ge hc2) ?_
        refine mEnds.stp 2 (pc' := 58) (l' := [some (.ref 10), some (.int x1), some (.int x2), some (.int x3), some (.int x4), some (.int x5), some (.int (x6 + (nI 1))), some (.ref 53), some (.int v3.1)]) (st' := []) (fun _ => rfl) ?_
        refine mEnds.cut (l := [some (.ref 10), some (.int x1), some (.int x2), some (.int x3), some (.int x4), some (.int x5), some (.int (x6 + (nI 1))), none, none]) ⟨rfl, ⟨rfl, ⟨rfl, ⟨rfl, ⟨rfl, ⟨rfl, ⟨rfl, trivial⟩⟩⟩⟩⟩⟩⟩ ?_
        exact ok_C_kind_58 fu x4 x5 (x6 + (nI 1)) v3.2 _ hf
def C_kind (x1 : Int32) (x2 : Int32) (x3 : Int32) (s : sg) : Option (Int32 × sg) :=
  (H_hasRoom 11 x1 s).bind fun v1 =>
  if v1 = 0 then
    some ((-1), s)
  else
    (C_within x2 (nI 0) (nI 60) s).bind fun v2 =>
    if v2 = 0 then
      some ((-1), s)
    else
      (C_within x3 (nI 0) (nI 1) s).bind fun v3 =>
      if v3 = 0 then
        some ((-1), s)
      else
        (H_hasTongue 11 x1 s).bind fun v4 =>
        if v4 = 0 then
          some ((-2), s)
        else
          C_kind_58 x1 x2 x3 FU (-4) (nI 10000) (nI 0) s
set_option maxRecDepth 100000 in
theorem ok_C_kind {x1 : Int32} {x2 : Int32} {x3 : Int32} {s : sg} {rv : (Int32 × sg)} (hf : C_kind x1 x2 x3 s = some rv) : mEnds [] 5 77 (0, [some (.ref 10), some (.int x1), some (.int x2), some (.int x3), none, none, none, none, none], [], hp shC s, 0, 0) (some (.int rv.1), hp shC rv.2, 0, 0) := by
  unfold C_kind at hf
  refine mEnds.stp 1 (pc' := 1) (l' := [some (.ref 10), some (.int x1), some (.int x2), some (.int x3), none, none, none, none, none]) (st' := [.ref 10]) (fun _ => rfl) ?_
  refine t_gr (rfl : mfetch 77 1 = some (1, .getfield 10, 3, 4, 0, 0)) rfl rfl ?_
  refine mEnds.stp 1 (pc' := 5) (l' := [some (.ref 10), some (.int x1), some (.int x2), some (.int x3), none, none, none, none, none]) (st' := [.int x1, .ref 11]) (fun _ => rfl) ?_
  obtain ⟨v1, hv1, hf⟩ := ob hf
  refine t_cv (as := [.int x1]) (st := []) (rfl : mfetch 77 5 = some (5, .invokevirtual 105, 3, 8, 0, 0)) rfl rfl rfl rfl rfl ((ok_H_hasRoom isH_11 hv1).deep 4) ?_
  by_cases hc1 : v1 = 0
  · rw [if_pos hc1] at hf
    refine t_jT (t := 30) (rfl : mfetch 77 8 = some (8, .ifCond .eq 22, 3, 0, 0, 0)) rfl (k_eq hc1) ?_
    refine mEnds.stp 1 (pc' := 31) (l' := [some (.ref 10), some (.int x1), some (.int x2), some (.int x3), none, none, none, none, none]) (st' := [.int (-1)]) (fun _ => rfl) ?_
    exact mEnds.rti (Option.some.inj hf) (fun _ => rfl)
  · rw [if_neg hc1] at hf
    refine t_jF (rfl : mfetch 77 8 = some (8, .ifCond .eq 22, 3, 0, 0, 0)) (k_eq' hc1) ?_
    refine mEnds.stp 3 (pc' := 15) (l' := [some (.ref 10), some (.int x1), some (.int x2), some (.int x3), none, none, none, none, none]) (st' := [.int (nI 60), .int (nI 0), .int x2]) (fun _ => rfl) ?_
    obtain ⟨v2, hv2, hf⟩ := ob hf
    refine t_cs (as := [.int x2, .int (nI 0), .int (nI 60)]) (st := []) (Or.inl rfl) (rfl : mfetch 77 15 = some (15, .invokestatic 48, 3, 105, 0, 0)) rfl rfl rfl ((ok_C_within hv2).deep 4) ?_
    by_cases hc2 : v2 = 0
    · rw [if_pos hc2] at hf
      refine t_jT (t := 30) (rfl : mfetch 77 18 = some (18, .ifCond .eq 12, 3, 0, 0, 0)) rfl (k_eq hc2) ?_
      refine mEnds.stp 1 (pc' := 31) (l' := [some (.ref 10), some (.int x1), some (.int x2), some (.int x3), none, none, none, none, none]) (st' := [.int (-1)]) (fun _ => rfl) ?_
      exact mEnds.rti (Option.some.inj hf) (fun _ => rfl)
    · rw [if_neg hc2] at hf
      refine t_jF (rfl : mfetch 77 18 = some (18, .ifCond .eq 12, 3, 0, 0, 0)) (k_eq' hc2) ?_
      refine mEnds.stp 3 (pc' := 24) (l' := [some (.ref 10), some (.int x1), some (.int x2), some (.int x3), none, none, none, none, none]) (st' := [.int (nI 1), .int (nI 0), .int x3]) (fun _ => rfl) ?_
      obtain ⟨v3, hv3, hf⟩ := ob hf
      refine t_cs (as := [.int x3, .int (nI 0), .int (nI 1)]) (st := []) (Or.inl rfl) (rfl : mfetch 77 24 = some (24, .invokestatic 48, 3, 105, 0, 0)) rfl rfl rfl ((ok_C_within hv3).deep 4) ?_
      by_cases hc3 : v3 = 0
      · rw [if_pos hc3] at hf
        refine t_jF (rfl : mfetch 77 27 = some (27, .ifCond .ne 5, 3, 0, 0, 0)) (k_ne' hc3) ?_
        refine mEnds.stp 1 (pc' := 31) (l' := [some (.ref 10), some (.int x1), some (.int x2), some (.int x3), none, none, none, none, none]) (st' := [.int (-1)]) (fun _ => rfl) ?_
        exact mEnds.rti (Option.some.inj hf) (fun _ => rfl)
      · rw [if_neg hc3] at hf
        refine t_jT (t := 32) (rfl : mfetch 77 27 = some (27, .ifCond .ne 5, 3, 0, 0, 0)) rfl (k_ne hc3) ?_
        refine mEnds.stp 1 (pc' := 33) (l' := [some (.ref 10), some (.int x1), some (.int x2), some (.int x3), none, none, none, none, none]) (st' := [.ref 10]) (fun _ => rfl) ?_
        refine t_gr (rfl : mfetch 77 33 = some (33, .getfield 10, 3, 4, 0, 0)) rfl rfl ?_
        refine mEnds.stp 1 (pc' := 37) (l' := [some (.ref 10), some (.int x1), some (.int x2), some (.int x3), none, none, none, none, none]) (st' := [.int x1, .ref 11]) (fun _ => rfl) ?_
        obtain ⟨v4, hv4, hf⟩ := ob hf
        refine t_cv (as := [.int x1]) (st := []) (rfl : mfetch 77 37 = some (37, .invokevirtual 121, 3, 10, 0, 0)) rfl rfl rfl rfl rfl ((ok_H_hasTongue isH_11 hv4).deep 4) ?_
        by_cases hc4 : v4 = 0
        · rw [if_pos hc4] at hf
          refine t_jF (rfl : mfetch 77 40 = some (40, .ifCond .ne 6, 3, 0, 0, 0)) (k_ne' hc4) ?_
          refine mEnds.stp 1 (pc' := 45) (l' := [some (.ref 10), some (.int x1), some (.int x2), some (.int x3), none, none, none, none, none]) (st' := [.int (-2)]) (fun _ => rfl) ?_
          exact mEnds.rti (Option.some.inj hf) (fun _ => rfl)
        · rw [if_neg hc4] at hf
          refine t_jT (t := 46) (rfl : mfetch 77 40 = some (40, .ifCond .ne 6, 3, 0, 0, 0)) rfl (k_ne hc4) ?_
          refine mEnds.stp 6 (pc' := 58) (l' := [some (.ref 10), some (.int x1), some (.int x2), some (.int x3), some (.int (-4)), some (.int (nI 10000)), some (.int (nI 0)), none, none]) (st' := []) (fun _ => rfl) ?_
          refine mEnds.cut (l := [some (.ref 10), some (.int x1), some (.int x2), some (.int x3), some (.int (-4)), some (.int (nI 10000)), some (.int (nI 0)), none, none]) ⟨rfl, ⟨rfl, ⟨rfl, ⟨rfl, ⟨rfl, ⟨rfl, ⟨rfl, trivial⟩⟩⟩⟩⟩⟩⟩ ?_
          exact ok_C_kind_58 FU (-4) (nI 10000) (nI 0) s _ hf
def C_swap_55 (k37 : Int32 → Int32 → Int32 → sg → Option (Int32 × sg)) (x1 : Int32) (x2 : Int32) (x5 : Int32) : Nat → Int32 → Int32 → Int32 → sg → Option (Int32 × sg)
  | 0, _, _, _, _ => none
  | fu + 1, x3, x4, x6, s =>
  if x6 < s 11 0 then
    (C_copyOfNow s).bind fun s1 =>
    (H_exchangeTongues 53 x5 x6 s1).bind fun s2 =>
    (H_passHours 53 x1 s2).bind fun v3 =>
    if v3.1 < x4 then
      C_swap_55 k37 x1 x2 x5 fu (((nI 10) * x5) + x6) v3.1 (x6 + (nI 1)) v3.2
    else
      C_swap_55 k37 x1 x2 x5 fu x3 x4 (x6 + (nI 1)) v3.2
  else
    k37 x3 x4 (x5 + (nI 1)) s
set_option maxRecDepth 100000 in
theorem ok_C_swap_55 {k37 : Int32 → Int32 → Int32 → sg → Option (Int32 × sg)} {x1 : Int32} {x2 : Int32} {x5 : Int32} (hk37 : ∀ (x3 : Int32) (x4 : Int32) (x5 : Int32) (s : sg) (rv : (Int32 × sg)), k37 x3 x4 x5 s = some rv → mEnds [] 5 78 (37, [some (.ref 10), some (.int x1), some (.int x2), some (.int x3), some (.int x4), some (.int x5), none, none, none], [], hp shC s, 0, 0) (some (.int rv.1), hp shC rv.2, 0, 0)) : ∀ (fu : Nat) (x3 : Int32) (x4 : Int32) (x6 : Int32) (s : sg) (rv : (Int32 × sg)), C_swap_55 k37 x1 x2 x5 fu x3 x4 x6 s = some rv → mEnds [] 5 78 (55, [some (.ref 10), some (.int x1), some (.int x2), some (.int x3), some (.int x4), some (.int x5), some (.int x6), none, none], [], hp shC s, 0, 0) (some (.int rv.1), hp shC rv.2, 0, 0)
  | 0, _, _, _, _, _, hf => by cases hf
  | fu + 1, x3, x4, x6, s, rv, hf => by
    rw [C_swap_55] at hf
    refine mEnds.stp 2 (pc' := 58) (l' := [some (.ref 10), some (.int x1), some (.int x2), some (.int x3), some (.int x4), some (.int x5), some (.int x6), none, none]) (st' := [.ref 10, .int x6]) (fun _ => rfl) ?_
    refine t_gr (rfl : mfetch 78 58 = some (58, .getfield 10, 3, 4, 0, 0)) rfl rfl ?_
    refine t_gi (rfl : mfetch 78 61 = some (61, .getfield 83, 3, 1, 0, 0)) rfl rfl ?_
    by_cases hc1 : x6 < s 11 0
    · rw [if_pos hc1] at hf
      refine t_cF (rfl : mfetch 78 64 = some (64, .if_icmp .ge 52, 3, 0, 0, 0)) (k_ge' hc1) ?_
      refine mEnds.stp 1 (pc' := 68) (l' := [some (.ref 10), some (.int x1), some (.int x2), some (.int x3), some (.int x4), some (.int x5), some (.int x6), none, none]) (st' := [.ref 10]) (fun _ => rfl) ?_
      obtain ⟨s1, hs1, hf⟩ := ob hf
      refine t_cv (as := []) (st := []) (rfl : mfetch 78 68 = some (68, .invokevirtual 167, 3, 109, 0, 0)) rfl rfl rfl rfl rfl ((ok_C_copyOfNow hs1).deep 3) ?_
      refine mEnds.stp 4 (pc' := 79) (l' := [some (.ref 10), some (.int x1), some (.int x2), some (.int x3), some (.int x4), some (.int x5), some (.int x6), some (.ref 53), none]) (st' := [.int x6, .int x5, .ref 53]) (fun _ => rfl) ?_
      obtain ⟨s2, hs2, hf⟩ := ob hf
      refine t_cv (as := [.int x5, .int x6]) (st := []) (rfl : mfetch 78 79 = some (79, .invokevirtual 193, 3, 21, 0, 0)) rfl rfl rfl rfl rfl ((ok_H_exchangeTongues isH_53 hs2).deep 3) ?_
      refine mEnds.stp 2 (pc' := 85) (l' := [some (.ref 10), some (.int x1), some (.int x2), some (.int x3), some (.int x4), some (.int x5), some (.int x6), some (.ref 53), none]) (st' := [.int x1, .ref 53]) (fun _ => rfl) ?_
      obtain ⟨v3, hv3, hf⟩ := ob hf
      refine t_cv (as := [.int x1]) (st := []) (rfl : mfetch 78 85 = some (85, .invokevirtual 161, 3, 22, 0, 0)) rfl rfl rfl rfl rfl (ok_H_passHours isH_53 hv3) ?_
      refine mEnds.stp 3 (pc' := 94) (l' := [some (.ref 10), some (.int x1), some (.int x2), some (.int x3), some (.int x4), some (.int x5), some (.int x6), some (.ref 53), some (.int v3.1)]) (st' := [.int x4, .int v3.1]) (fun _ => rfl) ?_
      by_cases hc2 : v3.1 < x4
      · rw [if_pos hc2] at hf
        refine t_cF (rfl : mfetch 78 94 = some (94, .if_icmp .ge 16, 3, 0, 0, 0)) (k_ge' hc2) ?_
        refine mEnds.stp 10 (pc' := 55) (l' := [some (.ref 10), some (.int x1), some (.int x2), some (.int (((nI 10) * x5) + x6)), some (.int v3.1), some (.int x5), some (.int (x6 + (nI 1))), some (.ref 53), some (.int v3.1)]) (st' := []) (fun _ => rfl) ?_
        refine mEnds.cut (l := [some (.ref 10), some (.int x1), some (.int x2), some (.int (((nI 10) * x5) + x6)), some (.int v3.1), some (.int x5), some (.int (x6 + (nI 1))), none, none]) ⟨rfl, ⟨rfl, ⟨rfl, ⟨rfl, ⟨rfl, ⟨rfl, ⟨rfl, trivial⟩⟩⟩⟩⟩⟩⟩ ?_
        exact ok_C_swap_55 hk37 fu (((nI 10) * x5) + x6) v3.1 (x6 + (nI 1)) v3.2 _ hf
      · rw [if_neg hc2] at hf
        refine t_cT (t := 110) (rfl : mfetch 78 94 = some (94, .if_icmp .ge 16, 3, 0, 0, 0)) rfl (k_ge hc2) ?_
        refine mEnds.stp 2 (pc' := 55) (l' := [some (.ref 10), some (.int x1), some (.int x2), some (.int x3), some (.int x4), some (.int x5), some (.int (x6 + (nI 1))), some (.ref 53), some (.int v3.1)]) (st' := []) (fun _ => rfl) ?_
        refine mEnds.cut (l := [some (.ref 10), some (.int x1), some (.int x2), some (.int x3), some (.int x4), some (.int x5), some (.int (x6 + (nI 1))), none, none]) ⟨rfl, ⟨rfl, ⟨rfl, ⟨rfl, ⟨rfl, ⟨rfl, ⟨rfl, trivial⟩⟩⟩⟩⟩⟩⟩ ?_
        exact ok_C_swap_55 hk37 fu x3 x4 (x6 + (nI 1)) v3.2 _ hf
    · rw [if_neg hc1] at hf
      refine t_cT (t := 116) (rfl : mfetch 78 64 = some (64, .if_icmp .ge 52, 3, 0, 0, 0)) rfl (k_ge hc1) ?_
      refine mEnds.stp 2 (pc' := 37) (l' := [some (.ref 10), some (.int x1), some (.int x2), some (.int x3), some (.int x4), some (.int (x5 + (nI 1))), some (.int x6), none, none]) (st' := []) (fun _ => rfl) ?_
      refine mEnds.cut (l := [some (.ref 10), some (.int x1), some (.int x2), some (.int x3), some (.int x4), some (.int (x5 + (nI 1))), none, none, none]) ⟨rfl, ⟨rfl, ⟨rfl, ⟨rfl, ⟨rfl, ⟨rfl, trivial⟩⟩⟩⟩⟩⟩ ?_
      exact hk37 x3 x4 (x5 + (nI 1)) s _ hf
def C_swap_37 (x1 : Int32) (x2 : Int32) : Nat → Int32 → Int32 → Int32 → sg → Option (Int32 × sg)
  | 0, _, _, _, _ => none
  | fu + 1, x3, x4, x5, s =>
  if x5 < s 11 0 then
    C_swap_55 (C_swap_37 x1 x2 fu) x1 x2 x5 FU x3 x4 (x5 + (nI 1)) s
  else
    (C_chosen x3 x4 x2 s).bind fun v1 =>
    some (v1, s)
set_option maxRecDepth 100000 in
theorem ok_C_swap_37 {x1 : Int32} {x2 : Int32} : ∀ (fu : Nat) (x3 : Int32) (x4 : Int32) (x5 : Int32) (s : sg) (rv : (Int32 × sg)), C_swap_37 x1 x2 fu x3 x4 x5 s = some rv → mEnds [] 5 78 (37, [some (.ref 10), some (.int x1), some (.int x2), some (.int x3), some (.int x4), some (.int x5), none, none, none], [], hp shC s, 0, 0) (some (.int rv.1), hp shC rv.2, 0, 0)
  | 0, _, _, _, _, _, hf => by cases hf
  | fu + 1, x3, x4, x5, s, rv, hf => by
    rw [C_swap_37] at hf
    refine mEnds.stp 2 (pc' := 40) (l' := [some (.ref 10), some (.int x1), some (.int x2), some (.int x3), some (.int x4), some (.int x5), none, none, none]) (st' := [.ref 10, .int x5]) (fun _ => rfl) ?_
    refine t_gr (rfl : mfetch 78 40 = some (40, .getfield 10, 3, 4, 0, 0)) rfl rfl ?_
    refine t_gi (rfl : mfetch 78 43 = some (43, .getfield 83, 3, 1, 0, 0)) rfl rfl ?_
    by_cases hc1 : x5 < s 11 0
    · rw [if_pos hc1] at hf
      refine t_cF (rfl : mfetch 78 46 = some (46, .if_icmp .ge 76, 3, 0, 0, 0)) (k_ge' hc1) ?_
      refine mEnds.stp 4 (pc' := 55) (l' := [some (.ref 10), some (.int x1), some (.int x2), some (.int x3), some (.int x4), some (.int x5), some (.int (x5 + (nI 1))), none, none]) (st' := []) (fun _ => rfl) ?_
      refine mEnds.cut (l := [some (.ref 10), some (.int x1), some (.int x2), some (.int x3), some (.int x4), some (.int x5), some (.int (x5 + (nI 1))), none, none]) ⟨rfl, ⟨rfl, ⟨rfl, ⟨rfl, ⟨rfl, ⟨rfl, ⟨rfl, trivial⟩⟩⟩⟩⟩⟩⟩ ?_
      exact ok_C_swap_55 (ok_C_swap_37 fu) FU x3 x4 (x5 + (nI 1)) s _ hf
    · rw [if_neg hc1] at hf
      refine t_cT (t := 122) (rfl : mfetch 78 46 = some (46, .if_icmp .ge 76, 3, 0, 0, 0)) rfl (k_ge hc1) ?_
      refine mEnds.stp 3 (pc' := 126) (l' := [some (.ref 10), some (.int x1), some (.int x2), some (.int x3), some (.int x4), some (.int x5), none, none, none]) (st' := [.int x2, .int x4, .int x3]) (fun _ => rfl) ?_
      obtain ⟨v1, hv1, hf⟩ := ob hf
      refine t_cs (as := [.int x3, .int x4, .int x2]) (st := []) (Or.inl rfl) (rfl : mfetch 78 126 = some (126, .invokestatic 189, 3, 108, 0, 0)) rfl rfl rfl ((ok_C_chosen hv1).deep 4) ?_
      exact mEnds.rti (Option.some.inj hf) (fun _ => rfl)
def C_swap (x1 : Int32) (x2 : Int32) (s : sg) : Option (Int32 × sg) :=
  (C_within x1 (nI 0) (nI 60) s).bind fun v1 =>
  if v1 = 0 then
    some ((-1), s)
  else
    (C_within x2 (nI 0) (nI 1) s).bind fun v2 =>
    if v2 = 0 then
      some ((-1), s)
    else
      (C_copyOfNow s).bind fun s1 =>
      (H_passHours 53 x1 s1).bind fun v4 =>
      C_swap_37 x1 x2 FU (-4) v4.1 (nI 0) v4.2
set_option maxRecDepth 100000 in
theorem ok_C_swap {x1 : Int32} {x2 : Int32} {s : sg} {rv : (Int32 × sg)} (hf : C_swap x1 x2 s = some rv) : mEnds [] 5 78 (0, [some (.ref 10), some (.int x1), some (.int x2), none, none, none, none, none, none], [], hp shC s, 0, 0) (some (.int rv.1), hp shC rv.2, 0, 0) := by
  unfold C_swap at hf
  refine mEnds.stp 3 (pc' := 4) (l' := [some (.ref 10), some (.int x1), some (.int x2), none, none, none, none, none, none]) (st' := [.int (nI 60), .int (nI 0), .int x1]) (fun _ => rfl) ?_
  obtain ⟨v1, hv1, hf⟩ := ob hf
  refine t_cs (as := [.int x1, .int (nI 0), .int (nI 60)]) (st := []) (Or.inl rfl) (rfl : mfetch 78 4 = some (4, .invokestatic 48, 3, 105, 0, 0)) rfl rfl rfl ((ok_C_within hv1).deep 4) ?_
  by_cases hc1 : v1 = 0
  · rw [if_pos hc1] at hf
    refine t_jT (t := 19) (rfl : mfetch 78 7 = some (7, .ifCond .eq 12, 3, 0, 0, 0)) rfl (k_eq hc1) ?_
    refine mEnds.stp 1 (pc' := 20) (l' := [some (.ref 10), some (.int x1), some (.int x2), none, none, none, none, none, none]) (st' := [.int (-1)]) (fun _ => rfl) ?_
    exact mEnds.rti (Option.some.inj hf) (fun _ => rfl)
  · rw [if_neg hc1] at hf
    refine t_jF (rfl : mfetch 78 7 = some (7, .ifCond .eq 12, 3, 0, 0, 0)) (k_eq' hc1) ?_
    refine mEnds.stp 3 (pc' := 13) (l' := [some (.ref 10), some (.int x1), some (.int x2), none, none, none, none, none, none]) (st' := [.int (nI 1), .int (nI 0), .int x2]) (fun _ => rfl) ?_
    obtain ⟨v2, hv2, hf⟩ := ob hf
    refine t_cs (as := [.int x2, .int (nI 0), .int (nI 1)]) (st := []) (Or.inl rfl) (rfl : mfetch 78 13 = some (13, .invokestatic 48, 3, 105, 0, 0)) rfl rfl rfl ((ok_C_within hv2).deep 4) ?_
    by_cases hc2 : v2 = 0
    · rw [if_pos hc2] at hf
      refine t_jF (rfl : mfetch 78 16 = some (16, .ifCond .ne 5, 3, 0, 0, 0)) (k_ne' hc2) ?_
      refine mEnds.stp 1 (pc' := 20) (l' := [some (.ref 10), some (.int x1), some (.int x2), none, none, none, none, none, none]) (st' := [.int (-1)]) (fun _ => rfl) ?_
      exact mEnds.rti (Option.some.inj hf) (fun _ => rfl)
    · rw [if_neg hc2] at hf
      refine t_jT (t := 21) (rfl : mfetch 78 16 = some (16, .ifCond .ne 5, 3, 0, 0, 0)) rfl (k_ne hc2) ?_
      refine mEnds.stp 3 (pc' := 25) (l' := [some (.ref 10), some (.int x1), some (.int x2), some (.int (-4)), none, none, none, none, none]) (st' := [.ref 10]) (fun _ => rfl) ?_
      obtain ⟨s1, hs1, hf⟩ := ob hf
      refine t_cv (as := []) (st := []) (rfl : mfetch 78 25 = some (25, .invokevirtual 167, 3, 109, 0, 0)) rfl rfl rfl rfl rfl ((ok_C_copyOfNow hs1).deep 3) ?_
      refine mEnds.stp 1 (pc' := 29) (l' := [some (.ref 10), some (.int x1), some (.int x2), some (.int (-4)), none, none, none, none, none]) (st' := [.int x1, .ref 53]) (fun _ => rfl) ?_
      obtain ⟨v4, hv4, hf⟩ := ob hf
      refine t_cv (as := [.int x1]) (st := []) (rfl : mfetch 78 29 = some (29, .invokevirtual 161, 3, 22, 0, 0)) rfl rfl rfl rfl rfl (ok_H_passHours isH_53 hv4) ?_
      refine mEnds.stp 3 (pc' := 37) (l' := [some (.ref 10), some (.int x1), some (.int x2), some (.int (-4)), some (.int v4.1), some (.int (nI 0)), none, none, none]) (st' := []) (fun _ => rfl) ?_
      refine mEnds.cut (l := [some (.ref 10), some (.int x1), some (.int x2), some (.int (-4)), some (.int v4.1), some (.int (nI 0)), none, none, none]) ⟨rfl, ⟨rfl, ⟨rfl, ⟨rfl, ⟨rfl, ⟨rfl, trivial⟩⟩⟩⟩⟩⟩ ?_
      exact ok_C_swap_37 FU (-4) v4.1 (nI 0) v4.2 _ hf
def C_seal_37 (x1 : Int32) (x2 : Int32) : Nat → Int32 → Int32 → Int32 → sg → Option (Int32 × sg)
  | 0, _, _, _, _ => none
  | fu + 1, x3, x4, x5, s =>
  if x5 < (s 11 0) - (nI 1) then
    (C_copyOfNow s).bind fun s1 =>
    (midx x5 5).bind fun j1 =>
    (some (up s1 59 j1 (nI 0))).bind fun s2 =>
    (H_passHours 53 x1 s2).bind fun v3 =>
    if v3.1 < x4 then
      C_seal_37 x1 x2 fu x5 v3.1 (x5 + (nI 1)) v3.2
    else
      C_seal_37 x1 x2 fu x3 x4 (x5 + (nI 1)) v3.2
  else
    (C_chosen x3 x4 x2 s).bind fun v1 =>
    some (v1, s)
set_option maxRecDepth 100000 in
theorem ok_C_seal_37 {x1 : Int32} {x2 : Int32} : ∀ (fu : Nat) (x3 : Int32) (x4 : Int32) (x5 : Int32) (s : sg) (rv : (Int32 × sg)), C_seal_37 x1 x2 fu x3 x4 x5 s = some rv → mEnds [] 5 79 (37, [some (.ref 10), some (.int x1), some (.int x2), some (.int x3), some (.int x4), some (.int x5), none, none], [], hp shC s, 0, 0) (some (.int rv.1), hp shC rv.2, 0, 0)
  | 0, _, _, _, _, _, hf => by cases hf
  | fu + 1, x3, x4, x5, s, rv, hf => by
    rw [C_seal_37] at hf
    refine mEnds.stp 2 (pc' := 40) (l' := [some (.ref 10), some (.int x1), some (.int x2), some (.int x3), some (.int x4), some (.int x5), none, none]) (st' := [.ref 10, .int x5]) (fun _ => rfl) ?_
    refine t_gr (rfl : mfetch 79 40 = some (40, .getfield 10, 3, 4, 0, 0)) rfl rfl ?_
    refine t_gi (rfl : mfetch 79 43 = some (43, .getfield 83, 3, 1, 0, 0)) rfl rfl ?_
    refine mEnds.stp 2 (pc' := 48) (l' := [some (.ref 10), some (.int x1), some (.int x2), some (.int x3), some (.int x4), some (.int x5), none, none]) (st' := [.int ((s 11 0) - (nI 1)), .int x5]) (fun _ => rfl) ?_
    by_cases hc1 : x5 < (s 11 0) - (nI 1)
    · rw [if_pos hc1] at hf
      refine t_cF (rfl : mfetch 79 48 = some (48, .if_icmp .ge 46, 3, 0, 0, 0)) (k_ge' hc1) ?_
      refine mEnds.stp 1 (pc' := 52) (l' := [some (.ref 10), some (.int x1), some (.int x2), some (.int x3), some (.int x4), some (.int x5), none, none]) (st' := [.ref 10]) (fun _ => rfl) ?_
      obtain ⟨s1, hs1, hf⟩ := ob hf
      refine t_cv (as := []) (st := []) (rfl : mfetch 79 52 = some (52, .invokevirtual 167, 3, 109, 0, 0)) rfl rfl rfl rfl rfl ((ok_C_copyOfNow hs1).deep 3) ?_
      refine mEnds.stp 2 (pc' := 59) (l' := [some (.ref 10), some (.int x1), some (.int x2), some (.int x3), some (.int x4), some (.int x5), some (.ref 53), none]) (st' := [.ref 53]) (fun _ => rfl) ?_
      refine t_gr (rfl : mfetch 79 59 = some (59, .getfield 144, 3, 1, 10, 0)) rfl rfl ?_
      refine mEnds.stp 2 (pc' := 65) (l' := [some (.ref 10), some (.int x1), some (.int x2), some (.int x3), some (.int x4), some (.int x5), some (.ref 53), none]) (st' := [.int (nI 0), .int x5, .ref 59]) (fun _ => rfl) ?_
      obtain ⟨j1, hj1, hf⟩ := ob hf
      obtain ⟨s2, hs2, hf⟩ := ob hf
      refine t_is (rfl : mfetch 79 65 = some (65, .iastore, 1, 0, 0, 0)) rfl rfl hj1 hs2 ?_
      refine mEnds.stp 2 (pc' := 69) (l' := [some (.ref 10), some (.int x1), some (.int x2), some (.int x3), some (.int x4), some (.int x5), some (.ref 53), none]) (st' := [.int x1, .ref 53]) (fun _ => rfl) ?_
      obtain ⟨v3, hv3, hf⟩ := ob hf
      refine t_cv (as := [.int x1]) (st := []) (rfl : mfetch 79 69 = some (69, .invokevirtual 161, 3, 22, 0, 0)) rfl rfl rfl rfl rfl (ok_H_passHours isH_53 hv3) ?_
      refine mEnds.stp 3 (pc' := 78) (l' := [some (.ref 10), some (.int x1), some (.int x2), some (.int x3), some (.int x4), some (.int x5), some (.ref 53), some (.int v3.1)]) (st' := [.int x4, .int v3.1]) (fun _ => rfl) ?_
      by_cases hc2 : v3.1 < x4
      · rw [if_pos hc2] at hf
        refine t_cF (rfl : mfetch 79 78 = some (78, .if_icmp .ge 10, 3, 0, 0, 0)) (k_ge' hc2) ?_
        refine mEnds.stp 6 (pc' := 37) (l' := [some (.ref 10), some (.int x1), some (.int x2), some (.int x5), some (.int v3.1), some (.int (x5 + (nI 1))), some (.ref 53), some (.int v3.1)]) (st' := []) (fun _ => rfl) ?_
        refine mEnds.cut (l := [some (.ref 10), some (.int x1), some (.int x2), some (.int x5), some (.int v3.1), some (.int (x5 + (nI 1))), none, none]) ⟨rfl, ⟨rfl, ⟨rfl, ⟨rfl, ⟨rfl, ⟨rfl, trivial⟩⟩⟩⟩⟩⟩ ?_
        exact ok_C_seal_37 fu x5 v3.1 (x5 + (nI 1)) v3.2 _ hf
      · rw [if_neg hc2] at hf
        refine t_cT (t := 88) (rfl : mfetch 79 78 = some (78, .if_icmp .ge 10, 3, 0, 0, 0)) rfl (k_ge hc2) ?_
        refine mEnds.stp 2 (pc' := 37) (l' := [some (.ref 10), some (.int x1), some (.int x2), some (.int x3), some (.int x4), some (.int (x5 + (nI 1))), some (.ref 53), some (.int v3.1)]) (st' := []) (fun _ => rfl) ?_
        refine mEnds.cut (l := [some (.ref 10), some (.int x1), some (.int x2), some (.int x3), some (.int x4), some (.int (x5 + (nI 1))), none, none]) ⟨rfl, ⟨rfl, ⟨rfl, ⟨rfl, ⟨rfl, ⟨rfl, trivial⟩⟩⟩⟩⟩⟩ ?_
        exact ok_C_seal_37 fu x3 x4 (x5 + (nI 1)) v3.2 _ hf
    · rw [if_neg hc1] at hf
      refine t_cT (t := 94) (rfl : mfetch 79 48 = some (48, .if_icmp .ge 46, 3, 0, 0, 0)) rfl (k_ge hc1) ?_
      refine mEnds.stp 3 (pc' := 98) (l' := [some (.ref 10), some (.int x1), some (.int x2), some (.int x3), some (.int x4), some (.int x5), none, none]) (st' := [.int x2, .int x4, .int x3]) (fun _ => rfl) ?_
      obtain ⟨v1, hv1, hf⟩ := ob hf
      refine t_cs (as := [.int x3, .int x4, .int x2]) (st := []) (Or.inl rfl) (rfl : mfetch 79 98 = some (98, .invokestatic 189, 3, 108, 0, 0)) rfl rfl rfl ((ok_C_chosen hv1).deep 4) ?_
      exact mEnds.rti (Option.some.inj hf) (fun _ => rfl)
def C_seal (x1 : Int32) (x2 : Int32) (s : sg) : Option (Int32 × sg) :=
  (C_within x1 (nI 0) (nI 60) s).bind fun v1 =>
  if v1 = 0 then
    some ((-1), s)
  else
    (C_within x2 (nI 0) (nI 1) s).bind fun v2 =>
    if v2 = 0 then
      some ((-1), s)
    else
      (C_copyOfNow s).bind fun s1 =>
      (H_passHours 53 x1 s1).bind fun v4 =>
      C_seal_37 x1 x2 FU (-4) v4.1 (nI 0) v4.2
set_option maxRecDepth 100000 in
theorem ok_C_seal {x1 : Int32} {x2 : Int32} {s : sg} {rv : (Int32 × sg)} (hf : C_seal x1 x2 s = some rv) : mEnds [] 5 79 (0, [some (.ref 10), some (.int x1), some (.int x2), none, none, none, none, none], [], hp shC s, 0, 0) (some (.int rv.1), hp shC rv.2, 0, 0) := by
  unfold C_seal at hf
  refine mEnds.stp 3 (pc' := 4) (l' := [some (.ref 10), some (.int x1), some (.int x2), none, none, none, none, none]) (st' := [.int (nI 60), .int (nI 0), .int x1]) (fun _ => rfl) ?_
  obtain ⟨v1, hv1, hf⟩ := ob hf
  refine t_cs (as := [.int x1, .int (nI 0), .int (nI 60)]) (st := []) (Or.inl rfl) (rfl : mfetch 79 4 = some (4, .invokestatic 48, 3, 105, 0, 0)) rfl rfl rfl ((ok_C_within hv1).deep 4) ?_
  by_cases hc1 : v1 = 0
  · rw [if_pos hc1] at hf
    refine t_jT (t := 19) (rfl : mfetch 79 7 = some (7, .ifCond .eq 12, 3, 0, 0, 0)) rfl (k_eq hc1) ?_
    refine mEnds.stp 1 (pc' := 20) (l' := [some (.ref 10), some (.int x1), some (.int x2), none, none, none, none, none]) (st' := [.int (-1)]) (fun _ => rfl) ?_
    exact mEnds.rti (Option.some.inj hf) (fun _ => rfl)
  · rw [if_neg hc1] at hf
    refine t_jF (rfl : mfetch 79 7 = some (7, .ifCond .eq 12, 3, 0, 0, 0)) (k_eq' hc1) ?_
    refine mEnds.stp 3 (pc' := 13) (l' := [some (.ref 10), some (.int x1), some (.int x2), none, none, none, none, none]) (st' := [.int (nI 1), .int (nI 0), .int x2]) (fun _ => rfl) ?_
    obtain ⟨v2, hv2, hf⟩ := ob hf
    refine t_cs (as := [.int x2, .int (nI 0), .int (nI 1)]) (st := []) (Or.inl rfl) (rfl : mfetch 79 13 = some (13, .invokestatic 48, 3, 105, 0, 0)) rfl rfl rfl ((ok_C_within hv2).deep 4) ?_
    by_cases hc2 : v2 = 0
    · rw [if_pos hc2] at hf
      refine t_jF (rfl : mfetch 79 16 = some (16, .ifCond .ne 5, 3, 0, 0, 0)) (k_ne' hc2) ?_
      refine mEnds.stp 1 (pc' := 20) (l' := [some (.ref 10), some (.int x1), some (.int x2), none, none, none, none, none]) (st' := [.int (-1)]) (fun _ => rfl) ?_
      exact mEnds.rti (Option.some.inj hf) (fun _ => rfl)
    · rw [if_neg hc2] at hf
      refine t_jT (t := 21) (rfl : mfetch 79 16 = some (16, .ifCond .ne 5, 3, 0, 0, 0)) rfl (k_ne hc2) ?_
      refine mEnds.stp 3 (pc' := 25) (l' := [some (.ref 10), some (.int x1), some (.int x2), some (.int (-4)), none, none, none, none]) (st' := [.ref 10]) (fun _ => rfl) ?_
      obtain ⟨s1, hs1, hf⟩ := ob hf
      refine t_cv (as := []) (st := []) (rfl : mfetch 79 25 = some (25, .invokevirtual 167, 3, 109, 0, 0)) rfl rfl rfl rfl rfl ((ok_C_copyOfNow hs1).deep 3) ?_
      refine mEnds.stp 1 (pc' := 29) (l' := [some (.ref 10), some (.int x1), some (.int x2), some (.int (-4)), none, none, none, none]) (st' := [.int x1, .ref 53]) (fun _ => rfl) ?_
      obtain ⟨v4, hv4, hf⟩ := ob hf
      refine t_cv (as := [.int x1]) (st := []) (rfl : mfetch 79 29 = some (29, .invokevirtual 161, 3, 22, 0, 0)) rfl rfl rfl rfl rfl (ok_H_passHours isH_53 hv4) ?_
      refine mEnds.stp 3 (pc' := 37) (l' := [some (.ref 10), some (.int x1), some (.int x2), some (.int (-4)), some (.int v4.1), some (.int (nI 0)), none, none]) (st' := []) (fun _ => rfl) ?_
      refine mEnds.cut (l := [some (.ref 10), some (.int x1), some (.int x2), some (.int (-4)), some (.int v4.1), some (.int (nI 0)), none, none]) ⟨rfl, ⟨rfl, ⟨rfl, ⟨rfl, ⟨rfl, ⟨rfl, trivial⟩⟩⟩⟩⟩⟩ ?_
      exact ok_C_seal_37 FU (-4) v4.1 (nI 0) v4.2 _ hf
end Q30f
section Q30g
def C_spare_43 (x1 : Int32) (x2 : Int32) (x3 : Int32) : Nat → Int32 → Int32 → Int32 → sg → Option (Int32 × sg)
  | 0, _, _, _, _ => none
  | fu + 1, x4, x5, x6, s =>
  if x6 < s 11 0 then
    (H_hasTongue 11 x6 s).bind fun v2 =>
    if v2 = 0 then
      C_spare_43 x1 x2 x3 fu x4 x5 (x6 + (nI 1)) s
    else
      (C_copyOfNow s).bind fun s1 =>
      (H_takeTongue 53 x6 s1).bind fun s2 =>
      (H_burntAllWarm 53 x1 x2 s2).bind fun v5 =>
      if v5.1 = (-4) then
        C_spare_43 x1 x2 x3 fu x4 x5 (x6 + (nI 1)) v5.2
      else
        if v5.1 < x5 then
          C_spare_43 x1 x2 x3 fu x6 v5.1 (x6 + (nI 1)) v5.2
        else
          C_spare_43 x1 x2 x3 fu x4 x5 (x6 + (nI 1)) v5.2
  else
    (C_chosen x4 x5 x3 s).bind fun v1 =>
    some (v1, s)
set_option maxRecDepth 100000 in
theorem ok_C_spare_43 {x1 : Int32} {x2 : Int32} {x3 : Int32} : ∀ (fu : Nat) (x4 : Int32) (x5 : Int32) (x6 : Int32) (s : sg) (rv : (Int32 × sg)), C_spare_43 x1 x2 x3 fu x4 x5 x6 s = some rv → mEnds [] 5 80 (43, [some (.ref 10), some (.int x1), some (.int x2), some (.int x3), some (.int x4), some (.int x5), some (.int x6), none, none], [], hp shC s, 0, 0) (some (.int rv.1), hp shC rv.2, 0, 0)
  | 0, _, _, _, _, _, hf => by cases hf
  | fu + 1, x4, x5, x6, s, rv, hf => by
    rw [C_spare_43] at hf
    refine mEnds.stp 2 (pc' := 46) (l' := [some (.ref 10), some (.int x1), some (.int x2), some (.int x3), some (.int x4), some (.int x5), some (.int x6), none, none]) (st' := [.ref 10, .int x6]) (fun _ => rfl) ?_
    refine t_gr (rfl : mfetch 80 46 = some (46, .getfield 10, 3, 4, 0, 0)) rfl rfl ?_
    refine t_gi (rfl : mfetch 80 49 = some (49, .getfield 83, 3, 1, 0, 0)) rfl rfl ?_
    by_cases hc1 : x6 < s 11 0
    · rw [if_pos hc1] at hf
      refine t_cF (rfl : mfetch 80 52 = some (52, .if_icmp .ge 68, 3, 0, 0, 0)) (k_ge' hc1) ?_
      refine mEnds.stp 1 (pc' := 56) (l' := [some (.ref 10), some (.int x1), some (.int x2), some (.int x3), some (.int x4), some (.int x5), some (.int x6), none, none]) (st' := [.ref 10]) (fun _ => rfl) ?_
      refine t_gr (rfl : mfetch 80 56 = some (56, .getfield 10, 3, 4, 0, 0)) rfl rfl ?_
      refine mEnds.stp 1 (pc' := 61) (l' := [some (.ref 10), some (.int x1), some (.int x2), some (.int x3), some (.int x4), some (.int x5), some (.int x6), none, none]) (st' := [.int x6, .ref 11]) (fun _ => rfl) ?_
      obtain ⟨v2, hv2, hf⟩ := ob hf
      refine t_cv (as := [.int x6]) (st := []) (rfl : mfetch 80 61 = some (61, .invokevirtual 121, 3, 10, 0, 0)) rfl rfl rfl rfl rfl ((ok_H_hasTongue isH_11 hv2).deep 4) ?_
      by_cases hc2 : v2 = 0
      · rw [if_pos hc2] at hf
        refine t_jF (rfl : mfetch 80 64 = some (64, .ifCond .ne 6, 3, 0, 0, 0)) (k_ne' hc2) ?_
        refine mEnds.stp 3 (pc' := 43) (l' := [some (.ref 10), some (.int x1), some (.int x2), some (.int x3), some (.int x4), some (.int x5), some (.int (x6 + (nI 1))), none, none]) (st' := []) (fun _ => rfl) ?_
        refine mEnds.cut (l := [some (.ref 10), some (.int x1), some (.int x2), some (.int x3), some (.int x4), some (.int x5), some (.int (x6 + (nI 1))), none, none]) ⟨rfl, ⟨rfl, ⟨rfl, ⟨rfl, ⟨rfl, ⟨rfl, ⟨rfl, trivial⟩⟩⟩⟩⟩⟩⟩ ?_
        exact ok_C_spare_43 fu x4 x5 (x6 + (nI 1)) s _ hf
      · rw [if_neg hc2] at hf
        refine t_jT (t := 70) (rfl : mfetch 80 64 = some (64, .ifCond .ne 6, 3, 0, 0, 0)) rfl (k_ne hc2) ?_
        refine mEnds.stp 1 (pc' := 71) (l' := [some (.ref 10), some (.int x1), some (.int x2), some (.int x3), some (.int x4), some (.int x5), some (.int x6), none, none]) (st' := [.ref 10]) (fun _ => rfl) ?_
        obtain ⟨s1, hs1, hf⟩ := ob hf
        refine t_cv (as := []) (st := []) (rfl : mfetch 80 71 = some (71, .invokevirtual 167, 3, 109, 0, 0)) rfl rfl rfl rfl rfl ((ok_C_copyOfNow hs1).deep 3) ?_
        refine mEnds.stp 3 (pc' := 80) (l' := [some (.ref 10), some (.int x1), some (.int x2), some (.int x3), some (.int x4), some (.int x5), some (.int x6), some (.ref 53), none]) (st' := [.int x6, .ref 53]) (fun _ => rfl) ?_
        obtain ⟨s2, hs2, hf⟩ := ob hf
        refine t_cv (as := [.int x6]) (st := []) (rfl : mfetch 80 80 = some (80, .invokevirtual 154, 3, 20, 0, 0)) rfl rfl rfl rfl rfl ((ok_H_takeTongue isH_53 hs2).deep 4) ?_
        refine mEnds.stp 3 (pc' := 87) (l' := [some (.ref 10), some (.int x1), some (.int x2), some (.int x3), some (.int x4), some (.int x5), some (.int x6), some (.ref 53), none]) (st' := [.int x2, .int x1, .ref 53]) (fun _ => rfl) ?_
        obtain ⟨v5, hv5, hf⟩ := ob hf
        refine t_cv (as := [.int x1, .int x2]) (st := []) (rfl : mfetch 80 87 = some (87, .invokevirtual 197, 3, 28, 0, 0)) rfl rfl rfl rfl rfl (ok_H_burntAllWarm isH_53 hv5) ?_
        refine mEnds.stp 3 (pc' := 96) (l' := [some (.ref 10), some (.int x1), some (.int x2), some (.int x3), some (.int x4), some (.int x5), some (.int x6), some (.ref 53), some (.int v5.1)]) (st' := [.int (-4), .int v5.1]) (fun _ => rfl) ?_
        by_cases hc3 : v5.1 = (-4)
        · rw [if_pos hc3] at hf
          refine t_cT (t := 114) (rfl : mfetch 80 96 = some (96, .if_icmp .eq 18, 3, 0, 0, 0)) rfl (k_eq hc3) ?_
          refine mEnds.stp 2 (pc' := 43) (l' := [some (.ref 10), some (.int x1), some (.int x2), some (.int x3), some (.int x4), some (.int x5), some (.int (x6 + (nI 1))), some (.ref 53), some (.int v5.1)]) (st' := []) (fun _ => rfl) ?_
          refine mEnds.cut (l := [some (.ref 10), some (.int x1), some (.int x2), some (.int x3), some (.int x4), some (.int x5), some (.int (x6 + (nI 1))), none, none]) ⟨rfl, ⟨rfl, ⟨rfl, ⟨rfl, ⟨rfl, ⟨rfl, ⟨rfl, trivial⟩⟩⟩⟩⟩⟩⟩ ?_
          exact ok_C_spare_43 fu x4 x5 (x6 + (nI 1)) v5.2 _ hf
        · rw [if_neg hc3] at hf
          refine t_cF (rfl : mfetch 80 96 = some (96, .if_icmp .eq 18, 3, 0, 0, 0)) (k_eq' hc3) ?_
          refine mEnds.stp 2 (pc' := 103) (l' := [some (.ref 10), some (.int x1), some (.int x2), some (.int x3), some (.int x4), some (.int x5), some (.int x6), some (.ref 53), some (.int v5.1)]) (st' := [.int x5, .int v5.1]) (fun _ => rfl) ?_
          by_cases hc4 : v5.1 < x5
          · rw [if_pos hc4] at hf
            refine t_cF (rfl : mfetch 80 103 = some (103, .if_icmp .ge 11, 3, 0, 0, 0)) (k_ge' hc4) ?_
            refine mEnds.stp 6 (pc' := 43) (l' := [some (.ref 10), some (.int x1), some (.int x2), some (.int x3), some (.int x6), some (.int v5.1), some (.int (x6 + (nI 1))), some (.ref 53), some (.int v5.1)]) (st' := []) (fun _ => rfl) ?_
            refine mEnds.cut (l := [some (.ref 10), some (.int x1), some (.int x2), some (.int x3), some (.int x6), some (.int v5.1), some (.int (x6 + (nI 1))), none, none]) ⟨rfl, ⟨rfl, ⟨rfl, ⟨rfl, ⟨rfl, ⟨rfl, ⟨rfl, trivial⟩⟩⟩⟩⟩⟩⟩ ?_
            exact ok_C_spare_43 fu x6 v5.1 (x6 + (nI 1)) v5.2 _ hf
          · rw [if_neg hc4] at hf
            refine t_cT (t := 114) (rfl : mfetch 80 103 = some (103, .if_icmp .ge 11, 3, 0, 0, 0)) rfl (k_ge hc4) ?_
            refine mEnds.stp 2 (pc' := 43) (l' := [some (.ref 10), some (.int x1), some (.int x2), some (.int x3), some (.int x4), some (.int x5), some (.int (x6 + (nI 1))), some (.ref 53), some (.int v5.1)]) (st' := []) (fun _ => rfl) ?_
            refine mEnds.cut (l := [some (.ref 10), some (.int x1), some (.int x2), some (.int x3), some (.int x4), some (.int x5), some (.int (x6 + (nI 1))), none, none]) ⟨rfl, ⟨rfl, ⟨rfl, ⟨rfl, ⟨rfl, ⟨rfl, ⟨rfl, trivial⟩⟩⟩⟩⟩⟩⟩ ?_
            exact ok_C_spare_43 fu x4 x5 (x6 + (nI 1)) v5.2 _ hf
    · rw [if_neg hc1] at hf
      refine t_cT (t := 120) (rfl : mfetch 80 52 = some (52, .if_icmp .ge 68, 3, 0, 0, 0)) rfl (k_ge hc1) ?_
      refine mEnds.stp 3 (pc' := 125) (l' := [some (.ref 10), some (.int x1), some (.int x2), some (.int x3), some (.int x4), some (.int x5), some (.int x6), none, none]) (st' := [.int x3, .int x5, .int x4]) (fun _ => rfl) ?_
      obtain ⟨v1, hv1, hf⟩ := ob hf
      refine t_cs (as := [.int x4, .int x5, .int x3]) (st := []) (Or.inl rfl) (rfl : mfetch 80 125 = some (125, .invokestatic 189, 3, 108, 0, 0)) rfl rfl rfl ((ok_C_chosen hv1).deep 4) ?_
      exact mEnds.rti (Option.some.inj hf) (fun _ => rfl)
def C_spare (x1 : Int32) (x2 : Int32) (x3 : Int32) (s : sg) : Option (Int32 × sg) :=
  (C_within x1 (nI 0) (nI 60) s).bind fun v1 =>
  if v1 = 0 then
    some ((-1), s)
  else
    (C_within x2 (nI 0) (nI 99) s).bind fun v2 =>
    if v2 = 0 then
      some ((-1), s)
    else
      (C_within x3 (nI 0) (nI 1) s).bind fun v3 =>
      if v3 = 0 then
        some ((-1), s)
      else
        C_spare_43 x1 x2 x3 FU (-4) (nI 10000) (nI 0) s
set_option maxRecDepth 100000 in
theorem ok_C_spare {x1 : Int32} {x2 : Int32} {x3 : Int32} {s : sg} {rv : (Int32 × sg)} (hf : C_spare x1 x2 x3 s = some rv) : mEnds [] 5 80 (0, [some (.ref 10), some (.int x1), some (.int x2), some (.int x3), none, none, none, none, none], [], hp shC s, 0, 0) (some (.int rv.1), hp shC rv.2, 0, 0) := by
  unfold C_spare at hf
  refine mEnds.stp 3 (pc' := 4) (l' := [some (.ref 10), some (.int x1), some (.int x2), some (.int x3), none, none, none, none, none]) (st' := [.int (nI 60), .int (nI 0), .int x1]) (fun _ => rfl) ?_
  obtain ⟨v1, hv1, hf⟩ := ob hf
  refine t_cs (as := [.int x1, .int (nI 0), .int (nI 60)]) (st := []) (Or.inl rfl) (rfl : mfetch 80 4 = some (4, .invokestatic 48, 3, 105, 0, 0)) rfl rfl rfl ((ok_C_within hv1).deep 4) ?_
  by_cases hc1 : v1 = 0
  · rw [if_pos hc1] at hf
    refine t_jT (t := 29) (rfl : mfetch 80 7 = some (7, .ifCond .eq 22, 3, 0, 0, 0)) rfl (k_eq hc1) ?_
    refine mEnds.stp 1 (pc' := 30) (l' := [some (.ref 10), some (.int x1), some (.int x2), some (.int x3), none, none, none, none, none]) (st' := [.int (-1)]) (fun _ => rfl) ?_
    exact mEnds.rti (Option.some.inj hf) (fun _ => rfl)
  · rw [if_neg hc1] at hf
    refine t_jF (rfl : mfetch 80 7 = some (7, .ifCond .eq 22, 3, 0, 0, 0)) (k_eq' hc1) ?_
    refine mEnds.stp 3 (pc' := 14) (l' := [some (.ref 10), some (.int x1), some (.int x2), some (.int x3), none, none, none, none, none]) (st' := [.int (nI 99), .int (nI 0), .int x2]) (fun _ => rfl) ?_
    obtain ⟨v2, hv2, hf⟩ := ob hf
    refine t_cs (as := [.int x2, .int (nI 0), .int (nI 99)]) (st := []) (Or.inl rfl) (rfl : mfetch 80 14 = some (14, .invokestatic 48, 3, 105, 0, 0)) rfl rfl rfl ((ok_C_within hv2).deep 4) ?_
    by_cases hc2 : v2 = 0
    · rw [if_pos hc2] at hf
      refine t_jT (t := 29) (rfl : mfetch 80 17 = some (17, .ifCond .eq 12, 3, 0, 0, 0)) rfl (k_eq hc2) ?_
      refine mEnds.stp 1 (pc' := 30) (l' := [some (.ref 10), some (.int x1), some (.int x2), some (.int x3), none, none, none, none, none]) (st' := [.int (-1)]) (fun _ => rfl) ?_
      exact mEnds.rti (Option.some.inj hf) (fun _ => rfl)
    · rw [if_neg hc2] at hf
      refine t_jF (rfl : mfetch 80 17 = some (17, .ifCond .eq 12, 3, 0, 0, 0)) (k_eq' hc2) ?_
      refine mEnds.stp 3 (pc' := 23) (l' := [some (.ref 10), some (.int x1), some (.int x2), some (.int x3), none, none, none, none, none]) (st' := [.int (nI 1), .int (nI 0), .int x3]) (fun _ => rfl) ?_
      obtain ⟨v3, hv3, hf⟩ := ob hf
      refine t_cs (as := [.int x3, .int (nI 0), .int (nI 1)]) (st := []) (Or.inl rfl) (rfl : mfetch 80 23 = some (23, .invokestatic 48, 3, 105, 0, 0)) rfl rfl rfl ((ok_C_within hv3).deep 4) ?_
      by_cases hc3 : v3 = 0
      · rw [if_pos hc3] at hf
        refine t_jF (rfl : mfetch 80 26 = some (26, .ifCond .ne 5, 3, 0, 0, 0)) (k_ne' hc3) ?_
        refine mEnds.stp 1 (pc' := 30) (l' := [some (.ref 10), some (.int x1), some (.int x2), some (.int x3), none, none, none, none, none]) (st' := [.int (-1)]) (fun _ => rfl) ?_
        exact mEnds.rti (Option.some.inj hf) (fun _ => rfl)
      · rw [if_neg hc3] at hf
        refine t_jT (t := 31) (rfl : mfetch 80 26 = some (26, .ifCond .ne 5, 3, 0, 0, 0)) rfl (k_ne hc3) ?_
        refine mEnds.stp 6 (pc' := 43) (l' := [some (.ref 10), some (.int x1), some (.int x2), some (.int x3), some (.int (-4)), some (.int (nI 10000)), some (.int (nI 0)), none, none]) (st' := []) (fun _ => rfl) ?_
        refine mEnds.cut (l := [some (.ref 10), some (.int x1), some (.int x2), some (.int x3), some (.int (-4)), some (.int (nI 10000)), some (.int (nI 0)), none, none]) ⟨rfl, ⟨rfl, ⟨rfl, ⟨rfl, ⟨rfl, ⟨rfl, ⟨rfl, trivial⟩⟩⟩⟩⟩⟩⟩ ?_
        exact ok_C_spare_43 FU (-4) (nI 10000) (nI 0) s _ hf
def C_fuseIsAsTold (x0 : Int32) (x1 : Int32) (x2 : Int32) (s : sg) : Option Int32 :=
  (C_within x0 (nI 0) (nI 10) s).bind fun v1 =>
  if v1 = 0 then
    some (nI 0)
  else
    (C_within x1 (nI 0) (nI 8) s).bind fun v2 =>
    if v2 = 0 then
      some (nI 0)
    else
      (C_within x2 (nI 0) (nI 1) s).bind fun v3 =>
      if v3 = 0 then
        some (nI 0)
      else
        some (nI 1)
set_option maxRecDepth 100000 in
theorem ok_C_fuseIsAsTold {x0 : Int32} {x1 : Int32} {x2 : Int32} {s : sg} {rv : Int32} (hf : C_fuseIsAsTold x0 x1 x2 s = some rv) : mEnds [] 1 83 (0, [some (.int x0), some (.int x1), some (.int x2)], [], hp shC s, 0, 0) (some (.int rv), hp shC s, 0, 0) := by
  unfold C_fuseIsAsTold at hf
  refine mEnds.stp 3 (pc' := 4) (l' := [some (.int x0), some (.int x1), some (.int x2)]) (st' := [.int (nI 10), .int (nI 0), .int x0]) (fun _ => rfl) ?_
  obtain ⟨v1, hv1, hf⟩ := ob hf
  refine t_cs (as := [.int x0, .int (nI 0), .int (nI 10)]) (st := []) (Or.inl rfl) (rfl : mfetch 83 4 = some (4, .invokestatic 48, 3, 105, 0, 0)) rfl rfl rfl (ok_C_within hv1) ?_
  by_cases hc1 : v1 = 0
  · rw [if_pos hc1] at hf
    refine t_jT (t := 33) (rfl : mfetch 83 7 = some (7, .ifCond .eq 26, 3, 0, 0, 0)) rfl (k_eq hc1) ?_
    refine mEnds.stp 1 (pc' := 34) (l' := [some (.int x0), some (.int x1), some (.int x2)]) (st' := [.int (nI 0)]) (fun _ => rfl) ?_
    cases hf; exact mEnds.rt (fun _ => rfl)
  · rw [if_neg hc1] at hf
    refine t_jF (rfl : mfetch 83 7 = some (7, .ifCond .eq 26, 3, 0, 0, 0)) (k_eq' hc1) ?_
    refine mEnds.stp 3 (pc' := 14) (l' := [some (.int x0), some (.int x1), some (.int x2)]) (st' := [.int (nI 8), .int (nI 0), .int x1]) (fun _ => rfl) ?_
    obtain ⟨v2, hv2, hf⟩ := ob hf
    refine t_cs (as := [.int x1, .int (nI 0), .int (nI 8)]) (st := []) (Or.inl rfl) (rfl : mfetch 83 14 = some (14, .invokestatic 48, 3, 105, 0, 0)) rfl rfl rfl (ok_C_within hv2) ?_
    by_cases hc2 : v2 = 0
    · rw [if_pos hc2] at hf
      refine t_jT (t := 33) (rfl : mfetch 83 17 = some (17, .ifCond .eq 16, 3, 0, 0, 0)) rfl (k_eq hc2) ?_
      refine mEnds.stp 1 (pc' := 34) (l' := [some (.int x0), some (.int x1), some (.int x2)]) (st' := [.int (nI 0)]) (fun _ => rfl) ?_
      cases hf; exact mEnds.rt (fun _ => rfl)
    · rw [if_neg hc2] at hf
      refine t_jF (rfl : mfetch 83 17 = some (17, .ifCond .eq 16, 3, 0, 0, 0)) (k_eq' hc2) ?_
      refine mEnds.stp 3 (pc' := 23) (l' := [some (.int x0), some (.int x1), some (.int x2)]) (st' := [.int (nI 1), .int (nI 0), .int x2]) (fun _ => rfl) ?_
      obtain ⟨v3, hv3, hf⟩ := ob hf
      refine t_cs (as := [.int x2, .int (nI 0), .int (nI 1)]) (st := []) (Or.inl rfl) (rfl : mfetch 83 23 = some (23, .invokestatic 48, 3, 105, 0, 0)) rfl rfl rfl (ok_C_within hv3) ?_
      by_cases hc3 : v3 = 0
      · rw [if_pos hc3] at hf
        refine t_jT (t := 33) (rfl : mfetch 83 26 = some (26, .ifCond .eq 7, 3, 0, 0, 0)) rfl (k_eq hc3) ?_
        refine mEnds.stp 1 (pc' := 34) (l' := [some (.int x0), some (.int x1), some (.int x2)]) (st' := [.int (nI 0)]) (fun _ => rfl) ?_
        cases hf; exact mEnds.rt (fun _ => rfl)
      · rw [if_neg hc3] at hf
        refine t_jF (rfl : mfetch 83 26 = some (26, .ifCond .eq 7, 3, 0, 0, 0)) (k_eq' hc3) ?_
        refine mEnds.stp 2 (pc' := 34) (l' := [some (.int x0), some (.int x1), some (.int x2)]) (st' := [.int (nI 1)]) (fun _ => rfl) ?_
        cases hf; exact mEnds.rt (fun _ => rfl)
def C_outcome (b : Nat) (x2 : Int32) (x3 : Int32) (s : sg) : Option Int32 :=
  (H_hasRoom b x2 s).bind fun v1 =>
  if v1 = 0 then
    some ((s b 3) - (s 11 3))
  else
    (midx x2 6).bind fun j1 =>
    if s (b + 1) j1 < x3 then
      some (nI 0)
    else
      some (nI 1)
set_option maxRecDepth 100000 in
theorem ok_C_outcome {b : Nat} {x2 : Int32} {x3 : Int32} (hb : isH b) {s : sg} {rv : Int32} (hf : C_outcome b x2 x3 s = some rv) : mEnds [] 1 85 (0, [some (.ref 10), some (.ref b), some (.int x2), some (.int x3)], [], hp shC s, 0, 0) (some (.int rv), hp shC s, 0, 0) := by
  unfold C_outcome at hf
  refine mEnds.stp 2 (pc' := 2) (l' := [some (.ref 10), some (.ref b), some (.int x2), some (.int x3)]) (st' := [.int x2, .ref b]) (fun _ => rfl) ?_
  obtain ⟨v1, hv1, hf⟩ := ob hf
  refine t_cv (as := [.int x2]) (st := []) (rfl : mfetch 85 2 = some (2, .invokevirtual 105, 3, 8, 0, 0)) hb.1 rfl rfl rfl rfl (ok_H_hasRoom hb hv1) ?_
  by_cases hc1 : v1 = 0
  · rw [if_pos hc1] at hf
    refine t_jF (rfl : mfetch 85 5 = some (5, .ifCond .ne 16, 3, 0, 0, 0)) (k_ne' hc1) ?_
    refine mEnds.stp 1 (pc' := 9) (l' := [some (.ref 10), some (.ref b), some (.int x2), some (.int x3)]) (st' := [.ref b]) (fun _ => rfl) ?_
    refine t_gi (rfl : mfetch 85 9 = some (9, .getfield 89, 3, 1, 3, 0)) hb.1 rfl ?_
    refine mEnds.stp 1 (pc' := 13) (l' := [some (.ref 10), some (.ref b), some (.int x2), some (.int x3)]) (st' := [.ref 10, .int (s b 3)]) (fun _ => rfl) ?_
    refine t_gr (rfl : mfetch 85 13 = some (13, .getfield 10, 3, 4, 0, 0)) rfl rfl ?_
    refine t_gi (rfl : mfetch 85 16 = some (16, .getfield 89, 3, 1, 3, 0)) rfl rfl ?_
    refine mEnds.stp 1 (pc' := 20) (l' := [some (.ref 10), some (.ref b), some (.int x2), some (.int x3)]) (st' := [.int ((s b 3) - (s 11 3))]) (fun _ => rfl) ?_
    cases hf; exact mEnds.rt (fun _ => rfl)
  · rw [if_neg hc1] at hf
    refine t_jT (t := 21) (rfl : mfetch 85 5 = some (5, .ifCond .ne 16, 3, 0, 0, 0)) rfl (k_ne hc1) ?_
    refine mEnds.stp 1 (pc' := 22) (l' := [some (.ref 10), some (.ref b), some (.int x2), some (.int x3)]) (st' := [.ref b]) (fun _ => rfl) ?_
    refine t_gr (rfl : mfetch 85 22 = some (22, .getfield 108, 3, 1, 5, 0)) hb.1 rfl ?_
    refine mEnds.stp 1 (pc' := 26) (l' := [some (.ref 10), some (.ref b), some (.int x2), some (.int x3)]) (st' := [.int x2, .ref (b + 1)]) (fun _ => rfl) ?_
    obtain ⟨j1, hj1, hf⟩ := ob hf
    refine t_ia (rfl : mfetch 85 26 = some (26, .iaload, 1, 0, 0, 0)) hb.2.1 (isH_le hb 1) hj1 ?_
    refine mEnds.stp 1 (pc' := 28) (l' := [some (.ref 10), some (.ref b), some (.int x2), some (.int x3)]) (st' := [.int x3, .int (s (b + 1) j1)]) (fun _ => rfl) ?_
    by_cases hc2 : s (b + 1) j1 < x3
    · rw [if_pos hc2] at hf
      refine t_cT (t := 35) (rfl : mfetch 85 28 = some (28, .if_icmp .lt 7, 3, 0, 0, 0)) rfl (k_lt hc2) ?_
      refine mEnds.stp 1 (pc' := 36) (l' := [some (.ref 10), some (.ref b), some (.int x2), some (.int x3)]) (st' := [.int (nI 0)]) (fun _ => rfl) ?_
      cases hf; exact mEnds.rt (fun _ => rfl)
    · rw [if_neg hc2] at hf
      refine t_cF (rfl : mfetch 85 28 = some (28, .if_icmp .lt 7, 3, 0, 0, 0)) (k_lt' hc2) ?_
      refine mEnds.stp 2 (pc' := 36) (l' := [some (.ref 10), some (.ref b), some (.int x2), some (.int x3)]) (st' := [.int (nI 1)]) (fun _ => rfl) ?_
      cases hf; exact mEnds.rt (fun _ => rfl)
def C_weighed_21 (kr : Int32 → Int32 → Int32 → Int32 → Int32 → sg → Option (Int64 × sg)) (x4 : Int32) (x5 : Int32) (x6 : Nat) (s : sg) : Option (Int64 × sg) :=
  (C_outcome x6 x4 x5 s).bind fun v1 =>
  some (v1.toInt64, s)
set_option maxRecDepth 100000 in
theorem ok_C_weighed_21 {kr : Int32 → Int32 → Int32 → Int32 → Int32 → sg → Option (Int64 × sg)} {D : Nat} (hD : 3 ≤ D) (hkr : ∀ (x1 : Int32) (x2 : Int32) (x3 : Int32) (x4 : Int32) (x5 : Int32) (s : sg) (rv : (Int64 × sg)), kr x1 x2 x3 x4 x5 s = some rv → mEnds [] D 84 (0, [some (.ref 10), some (.int x1), some (.int x2), some (.int x3), some (.int x4), some (.int x5), none, none, none, none, none, none], [], hp shC s, 0, 0) (some (.long rv.1), hp shC rv.2, 0, 0)) {x4 : Int32} {x5 : Int32} {x6 : Nat} (hx6 : isH x6) {s : sg} {rv : (Int64 × sg)} (hf : C_weighed_21 kr x4 x5 x6 s = some rv) : mEnds [] (D + 1) 84 (21, [some (.ref 10), none, none, none, some (.int x4), some (.int x5), some (.ref x6), none, none, none, none, none], [], hp shC s, 0, 0) (some (.long rv.1), hp shC rv.2, 0, 0) := by
  unfold C_weighed_21 at hf
  refine mEnds.stp 4 (pc' := 28) (l' := [some (.ref 10), none, none, none, some (.int x4), some (.int x5), some (.ref x6), none, none, none, none, none]) (st' := [.int x5, .int x4, .ref x6, .ref 10]) (fun _ => rfl) ?_
  obtain ⟨v1, hv1, hf⟩ := ob hf
  refine t_cv (as := [.ref x6, .int x4, .int x5]) (st := []) (rfl : mfetch 84 28 = some (28, .invokevirtual 217, 3, 85, 0, 0)) rfl rfl rfl rfl rfl ((ok_C_outcome hx6 hv1).le (Nat.le_trans (by decide : 1 ≤ 3) hD)) ?_
  refine mEnds.stp 1 (pc' := 32) (l' := [some (.ref 10), none, none, none, some (.int x4), some (.int x5), some (.ref x6), none, none, none, none, none]) (st' := [.long v1.toInt64]) (fun _ => rfl) ?_
  exact mEnds.rtl (Option.some.inj hf) (fun _ => rfl)
def C_weighed_101 (kr : Int32 → Int32 → Int32 → Int32 → Int32 → sg → Option (Int64 × sg)) (k39 : Int64 → Int32 → sg → Option (Int64 × sg)) (x1 : Int32) (x2 : Int32) (x3 : Int32) (x4 : Int32) (x5 : Int32) (x6 : Nat) (x7 : Int64) (x9 : Int32) (x10 : Int32) (y0 : Int32) (y1 : Int32) (y2 : Nat) (s : sg) : Option (Int64 × sg) :=
  (H_passHourBy y2 y1 y0 s).bind fun s1 =>
  (kr (x1 + (nI 1)) x2 x3 x4 x5 s1).bind fun v2 =>
  k39 (x7 + (x10.toInt64 * v2.1)) (x9 + (nI 1)) v2.2
set_option maxRecDepth 100000 in
theorem ok_C_weighed_101 {kr : Int32 → Int32 → Int32 → Int32 → Int32 → sg → Option (Int64 × sg)} {D : Nat} (hD : 3 ≤ D) (hkr : ∀ (x1 : Int32) (x2 : Int32) (x3 : Int32) (x4 : Int32) (x5 : Int32) (s : sg) (rv : (Int64 × sg)), kr x1 x2 x3 x4 x5 s = some rv → mEnds [] D 84 (0, [some (.ref 10), some (.int x1), some (.int x2), some (.int x3), some (.int x4), some (.int x5), none, none, none, none, none, none], [], hp shC s, 0, 0) (some (.long rv.1), hp shC rv.2, 0, 0)) {k39 : Int64 → Int32 → sg → Option (Int64 × sg)} {x1 : Int32} {x2 : Int32} {x3 : Int32} {x4 : Int32} {x5 : Int32} {x6 : Nat} {x7 : Int64} {x9 : Int32} {x10 : Int32} {y0 : Int32} {y1 : Int32} {y2 : Nat} (hx6 : isH x6) (hy2 : isH y2) {s : sg} {rv : (Int64 × sg)} (hk39 : ∀ (x7 : Int64) (x9 : Int32) (s : sg) (rv : (Int64 × sg)), k39 x7 x9 s = some rv → mEnds [] (D + 1) 84 (39, [some (.ref 10), some (.int x1), some (.int x2), some (.int x3), some (.int x4), some (.int x5), some (.ref x6), some (.long x7), none, some (.int x9), none, none], [], hp shC s, 0, 0) (some (.long rv.1), hp shC rv.2, 0, 0)) (hf : C_weighed_101 kr k39 x1 x2 x3 x4 x5 x6 x7 x9 x10 y0 y1 y2 s = some rv) : mEnds [] (D + 1) 84 (101, [some (.ref 10), some (.int x1), some (.int x2), some (.int x3), some (.int x4), some (.int x5), some (.ref x6), some (.long x7), none, some (.int x9), some (.int x10), none], [.int y0, .int y1, .ref y2], hp shC s, 0, 0) (some (.long rv.1), hp shC rv.2, 0, 0) := by
  unfold C_weighed_101 at hf
  obtain ⟨s1, hs1, hf⟩ := ob hf
  refine t_cv (as := [.int y1, .int y0]) (st := []) (rfl : mfetch 84 101 = some (101, .invokevirtual 221, 3, 24, 0, 0)) hy2.1 rfl rfl rfl rfl ((ok_H_passHourBy hy2 hs1).le (Nat.le_trans (by decide : 2 ≤ 3) hD)) ?_
  refine mEnds.stp 11 (pc' := 119) (l' := [some (.ref 10), some (.int x1), some (.int x2), some (.int x3), some (.int x4), some (.int x5), some (.ref x6), some (.long x7), none, some (.int x9), some (.int x10), none]) (st' := [.int x5, .int x4, .int x3, .int x2, .int (x1 + (nI 1)), .ref 10, .long x10.toInt64, .long x7]) (fun _ => rfl) ?_
  obtain ⟨v2, hv2, hf⟩ := ob hf
  refine t_cv (as := [.int (x1 + (nI 1)), .int x2, .int x3, .int x4, .int x5]) (st := [.long x10.toInt64, .long x7]) (rfl : mfetch 84 119 = some (119, .invokevirtual 205, 3, 84, 0, 0)) rfl rfl rfl rfl rfl (hkr (x1 + (nI 1)) x2 x3 x4 x5 s1 _ hv2) ?_
  refine mEnds.stp 5 (pc' := 39) (l' := [some (.ref 10), some (.int x1), some (.int x2), some (.int x3), some (.int x4), some (.int x5), some (.ref x6), some (.long (x7 + (x10.toInt64 * v2.1))), none, some (.int (x9 + (nI 1))), some (.int x10), none]) (st' := []) (fun _ => rfl) ?_
  refine mEnds.cut (l := [some (.ref 10), some (.int x1), some (.int x2), some (.int x3), some (.int x4), some (.int x5), some (.ref x6), some (.long (x7 + (x10.toInt64 * v2.1))), none, some (.int (x9 + (nI 1))), none, none]) ⟨rfl, ⟨rfl, ⟨rfl, ⟨rfl, ⟨rfl, ⟨rfl, ⟨rfl, ⟨rfl, ⟨rfl, trivial⟩⟩⟩⟩⟩⟩⟩⟩⟩ ?_
  exact hk39 (x7 + (x10.toInt64 * v2.1)) (x9 + (nI 1)) v2.2 _ hf
def C_weighed_59 (kr : Int32 → Int32 → Int32 → Int32 → Int32 → sg → Option (Int64 × sg)) (k39 : Int64 → Int32 → sg → Option (Int64 × sg)) (x1 : Int32) (x2 : Int32) (x3 : Int32) (x4 : Int32) (x5 : Int32) (x6 : Nat) (x7 : Int64) (x9 : Int32) (y0 : Int32) (s : sg) : Option (Int64 × sg) :=
  if 0 < y0 then
    (midx (x1 + (nI 1)) 10).bind fun j1 =>
    (H_copyFrom (53 + 8 * j1) x6 s).bind fun s1 =>
    (H_skyNow (53 + 8 * j1) s1).bind fun v2 =>
    if x9 = nI 1 then
      C_weighed_101 kr k39 x1 x2 x3 x4 x5 x6 x7 x9 y0 (nI 1) v2 (53 + 8 * j1) s1
    else
      C_weighed_101 kr k39 x1 x2 x3 x4 x5 x6 x7 x9 y0 (nI 0) v2 (53 + 8 * j1) s1
  else
    k39 x7 (x9 + (nI 1)) s
set_option maxRecDepth 100000 in
theorem ok_C_weighed_59 {kr : Int32 → Int32 → Int32 → Int32 → Int32 → sg → Option (Int64 × sg)} {D : Nat} (hD : 3 ≤ D) (hkr : ∀ (x1 : Int32) (x2 : Int32) (x3 : Int32) (x4 : Int32) (x5 : Int32) (s : sg) (rv : (Int64 × sg)), kr x1 x2 x3 x4 x5 s = some rv → mEnds [] D 84 (0, [some (.ref 10), some (.int x1), some (.int x2), some (.int x3), some (.int x4), some (.int x5), none, none, none, none, none, none], [], hp shC s, 0, 0) (some (.long rv.1), hp shC rv.2, 0, 0)) {k39 : Int64 → Int32 → sg → Option (Int64 × sg)} {x1 : Int32} {x2 : Int32} {x3 : Int32} {x4 : Int32} {x5 : Int32} {x6 : Nat} {x7 : Int64} {x9 : Int32} {y0 : Int32} (hx6 : isH x6) {s : sg} {rv : (Int64 × sg)} (hk39 : ∀ (x7 : Int64) (x9 : Int32) (s : sg) (rv : (Int64 × sg)), k39 x7 x9 s = some rv → mEnds [] (D + 1) 84 (39, [some (.ref 10), some (.int x1), some (.int x2), some (.int x3), some (.int x4), some (.int x5), some (.ref x6), some (.long x7), none, some (.int x9), none, none], [], hp shC s, 0, 0) (some (.long rv.1), hp shC rv.2, 0, 0)) (hf : C_weighed_59 kr k39 x1 x2 x3 x4 x5 x6 x7 x9 y0 s = some rv) : mEnds [] (D + 1) 84 (59, [some (.ref 10), some (.int x1), some (.int x2), some (.int x3), some (.int x4), some (.int x5), some (.ref x6), some (.long x7), none, some (.int x9), none, none], [.int y0], hp shC s, 0, 0) (some (.long rv.1), hp shC rv.2, 0, 0) := by
  unfold C_weighed_59 at hf
  refine mEnds.stp 2 (pc' := 63) (l' := [some (.ref 10), some (.int x1), some (.int x2), some (.int x3), some (.int x4), some (.int x5), some (.ref x6), some (.long x7), none, some (.int x9), some (.int y0), none]) (st' := [.int y0]) (fun _ => rfl) ?_
  by_cases hc1 : 0 < y0
  · rw [if_pos hc1] at hf
    refine t_jF (rfl : mfetch 84 63 = some (63, .ifCond .le 63, 3, 0, 0, 0)) (k_le' hc1) ?_
    refine mEnds.stp 1 (pc' := 67) (l' := [some (.ref 10), some (.int x1), some (.int x2), some (.int x3), some (.int x4), some (.int x5), some (.ref x6), some (.long x7), none, some (.int x9), some (.int y0), none]) (st' := [.ref 10]) (fun _ => rfl) ?_
    refine t_gr (rfl : mfetch 84 67 = some (67, .getfield 24, 3, 4, 3, 0)) rfl rfl ?_
    refine mEnds.stp 3 (pc' := 73) (l' := [some (.ref 10), some (.int x1), some (.int x2), some (.int x3), some (.int x4), some (.int x5), some (.ref x6), some (.long x7), none, some (.int x9), some (.int y0), none]) (st' := [.int (x1 + (nI 1)), .ref 21]) (fun _ => rfl) ?_
    obtain ⟨j1, hj1, hf⟩ := ob hf
    refine t_aa (rfl : mfetch 84 73 = some (73, .aaload, 1, 0, 0, 0)) rfl rfl rfl hj1 (el_tr (mi_lt hj1)) ?_
    refine mEnds.stp 3 (pc' := 80) (l' := [some (.ref 10), some (.int x1), some (.int x2), some (.int x3), some (.int x4), some (.int x5), some (.ref x6), some (.long x7), none, some (.int x9), some (.int y0), some (.ref (53 + 8 * j1))]) (st' := [.ref x6, .ref (53 + 8 * j1)]) (fun _ => rfl) ?_
    obtain ⟨s1, hs1, hf⟩ := ob hf
    refine t_cv (as := [.ref x6]) (st := []) (rfl : mfetch 84 80 = some (80, .invokevirtual 70, 3, 7, 0, 0)) (isH_tr (mi_lt hj1)).1 rfl rfl rfl rfl ((ok_H_copyFrom (isH_tr (mi_lt hj1)) hx6 hs1).le (Nat.le_trans (by decide : 0 ≤ 3) hD)) ?_
    refine mEnds.stp 2 (pc' := 87) (l' := [some (.ref 10), some (.int x1), some (.int x2), some (.int x3), some (.int x4), some (.int x5), some (.ref x6), some (.long x7), none, some (.int x9), some (.int y0), some (.ref (53 + 8 * j1))]) (st' := [.ref (53 + 8 * j1), .ref (53 + 8 * j1)]) (fun _ => rfl) ?_
    obtain ⟨v2, hv2, hf⟩ := ob hf
    refine t_cv (as := []) (st := [.ref (53 + 8 * j1)]) (rfl : mfetch 84 87 = some (87, .invokevirtual 102, 3, 14, 0, 0)) (isH_tr (mi_lt hj1)).1 rfl rfl rfl rfl ((ok_H_skyNow (isH_tr (mi_lt hj1)) hv2).le (Nat.le_trans (by decide : 0 ≤ 3) hD)) ?_
    refine mEnds.stp 2 (pc' := 93) (l' := [some (.ref 10), some (.int x1), some (.int x2), some (.int x3), some (.int x4), some (.int x5), some (.ref x6), some (.long x7), none, some (.int x9), some (.int y0), some (.ref (53 + 8 * j1))]) (st' := [.int (nI 1), .int x9, .int v2, .ref (53 + 8 * j1)]) (fun _ => rfl) ?_
    by_cases hc2 : x9 = nI 1
    · rw [if_pos hc2] at hf
      refine t_cF (rfl : mfetch 84 93 = some (93, .if_icmp .ne 7, 3, 0, 0, 0)) (k_ne' hc2) ?_
      refine mEnds.stp 2 (pc' := 101) (l' := [some (.ref 10), some (.int x1), some (.int x2), some (.int x3), some (.int x4), some (.int x5), some (.ref x6), some (.long x7), none, some (.int x9), some (.int y0), some (.ref (53 + 8 * j1))]) (st' := [.int (nI 1), .int v2, .ref (53 + 8 * j1)]) (fun _ => rfl) ?_
      refine mEnds.cut (l := [some (.ref 10), some (.int x1), some (.int x2), some (.int x3), some (.int x4), some (.int x5), some (.ref x6), some (.long x7), none, some (.int x9), some (.int y0), none]) ⟨rfl, ⟨rfl, ⟨rfl, ⟨rfl, ⟨rfl, ⟨rfl, ⟨rfl, ⟨rfl, ⟨rfl, ⟨rfl, trivial⟩⟩⟩⟩⟩⟩⟩⟩⟩⟩ ?_
      exact ok_C_weighed_101 hD hkr hx6 (isH_tr (mi_lt hj1)) hk39 hf
    · rw [if_neg hc2] at hf
      refine t_cT (t := 100) (rfl : mfetch 84 93 = some (93, .if_icmp .ne 7, 3, 0, 0, 0)) rfl (k_ne hc2) ?_
      refine mEnds.stp 1 (pc' := 101) (l' := [some (.ref 10), some (.int x1), some (.int x2), some (.int x3), some (.int x4), some (.int x5), some (.ref x6), some (.long x7), none, some (.int x9), some (.int y0), some (.ref (53 + 8 * j1))]) (st' := [.int (nI 0), .int v2, .ref (53 + 8 * j1)]) (fun _ => rfl) ?_
      refine mEnds.cut (l := [some (.ref 10), some (.int x1), some (.int x2), some (.int x3), some (.int x4), some (.int x5), some (.ref x6), some (.long x7), none, some (.int x9), some (.int y0), none]) ⟨rfl, ⟨rfl, ⟨rfl, ⟨rfl, ⟨rfl, ⟨rfl, ⟨rfl, ⟨rfl, ⟨rfl, ⟨rfl, trivial⟩⟩⟩⟩⟩⟩⟩⟩⟩⟩ ?_
      exact ok_C_weighed_101 hD hkr hx6 (isH_tr (mi_lt hj1)) hk39 hf
  · rw [if_neg hc1] at hf
    refine t_jT (t := 126) (rfl : mfetch 84 63 = some (63, .ifCond .le 63, 3, 0, 0, 0)) rfl (k_le hc1) ?_
    refine mEnds.stp 2 (pc' := 39) (l' := [some (.ref 10), some (.int x1), some (.int x2), some (.int x3), some (.int x4), some (.int x5), some (.ref x6), some (.long x7), none, some (.int (x9 + (nI 1))), some (.int y0), none]) (st' := []) (fun _ => rfl) ?_
    refine mEnds.cut (l := [some (.ref 10), some (.int x1), some (.int x2), some (.int x3), some (.int x4), some (.int x5), some (.ref x6), some (.long x7), none, some (.int (x9 + (nI 1))), none, none]) ⟨rfl, ⟨rfl, ⟨rfl, ⟨rfl, ⟨rfl, ⟨rfl, ⟨rfl, ⟨rfl, ⟨rfl, trivial⟩⟩⟩⟩⟩⟩⟩⟩⟩ ?_
    exact hk39 x7 (x9 + (nI 1)) s _ hf
def C_weighed_39 (kr : Int32 → Int32 → Int32 → Int32 → Int32 → sg → Option (Int64 × sg)) (x1 : Int32) (x2 : Int32) (x3 : Int32) (x4 : Int32) (x5 : Int32) (x6 : Nat) : Nat → Int64 → Int32 → sg → Option (Int64 × sg)
  | 0, _, _, _ => none
  | fu + 1, x7, x9, s =>
  if nI 1 < x9 then
    some (x7, s)
  else
    if x9 = nI 1 then
      C_weighed_59 kr (C_weighed_39 kr x1 x2 x3 x4 x5 x6 fu) x1 x2 x3 x4 x5 x6 x7 x9 x3 s
    else
      C_weighed_59 kr (C_weighed_39 kr x1 x2 x3 x4 x5 x6 fu) x1 x2 x3 x4 x5 x6 x7 x9 ((nI 10) - x3) s
set_option maxRecDepth 100000 in
theorem ok_C_weighed_39 {kr : Int32 → Int32 → Int32 → Int32 → Int32 → sg → Option (Int64 × sg)} {D : Nat} (hD : 3 ≤ D) (hkr : ∀ (x1 : Int32) (x2 : Int32) (x3 : Int32) (x4 : Int32) (x5 : Int32) (s : sg) (rv : (Int64 × sg)), kr x1 x2 x3 x4 x5 s = some rv → mEnds [] D 84 (0, [some (.ref 10), some (.int x1), some (.int x2), some (.int x3), some (.int x4), some (.int x5), none, none, none, none, none, none], [], hp shC s, 0, 0) (some (.long rv.1), hp shC rv.2, 0, 0)) {x1 : Int32} {x2 : Int32} {x3 : Int32} {x4 : Int32} {x5 : Int32} {x6 : Nat} (hx6 : isH x6) : ∀ (fu : Nat) (x7 : Int64) (x9 : Int32) (s : sg) (rv : (Int64 × sg)), C_weighed_39 kr x1 x2 x3 x4 x5 x6 fu x7 x9 s = some rv → mEnds [] (D + 1) 84 (39, [some (.ref 10), some (.int x1), some (.int x2), some (.int x3), some (.int x4), some (.int x5), some (.ref x6), some (.long x7), none, some (.int x9), none, none], [], hp shC s, 0, 0) (some (.long rv.1), hp shC rv.2, 0, 0)
  | 0, _, _, _, _, hf => by cases hf
  | fu + 1, x7, x9, s, rv, hf => by
    rw [C_weighed_39] at hf
    refine mEnds.stp 2 (pc' := 42) (l' := [some (.ref 10), some (.int x1), some (.int x2), some (.int x3), some (.int x4), some (.int x5), some (.ref x6), some (.long x7), none, some (.int x9), none, none]) (st' := [.int (nI 1), .int x9]) (fun _ => rfl) ?_
    by_cases hc1 : nI 1 < x9
    · rw [if_pos hc1] at hf
      refine t_cT (t := 132) (rfl : mfetch 84 42 = some (42, .if_icmp .gt 90, 3, 0, 0, 0)) rfl (k_gt hc1) ?_
      refine mEnds.stp 1 (pc' := 134) (l' := [some (.ref 10), some (.int x1), some (.int x2), some (.int x3), some (.int x4), some (.int x5), some (.ref x6), some (.long x7), none, some (.int x9), none, none]) (st' := [.long x7]) (fun _ => rfl) ?_
      exact mEnds.rtl (Option.some.inj hf) (fun _ => rfl)
    · rw [if_neg hc1] at hf
      refine t_cF (rfl : mfetch 84 42 = some (42, .if_icmp .gt 90, 3, 0, 0, 0)) (k_gt' hc1) ?_
      refine mEnds.stp 2 (pc' := 48) (l' := [some (.ref 10), some (.int x1), some (.int x2), some (.int x3), some (.int x4), some (.int x5), some (.ref x6), some (.long x7), none, some (.int x9), none, none]) (st' := [.int (nI 1), .int x9]) (fun _ => rfl) ?_
      by_cases hc2 : x9 = nI 1
      · rw [if_pos hc2] at hf
        refine t_cF (rfl : mfetch 84 48 = some (48, .if_icmp .ne 7, 3, 0, 0, 0)) (k_ne' hc2) ?_
        refine mEnds.stp 2 (pc' := 59) (l' := [some (.ref 10), some (.int x1), some (.int x2), some (.int x3), some (.int x4), some (.int x5), some (.ref x6), some (.long x7), none, some (.int x9), none, none]) (st' := [.int x3]) (fun _ => rfl) ?_
        refine mEnds.cut (l := [some (.ref 10), some (.int x1), some (.int x2), some (.int x3), some (.int x4), some (.int x5), some (.ref x6), some (.long x7), none, some (.int x9), none, none]) ⟨rfl, ⟨rfl, ⟨rfl, ⟨rfl, ⟨rfl, ⟨rfl, ⟨rfl, ⟨rfl, ⟨rfl, trivial⟩⟩⟩⟩⟩⟩⟩⟩⟩ ?_
        exact ok_C_weighed_59 hD hkr hx6 (ok_C_weighed_39 hD hkr hx6 fu) hf
      · rw [if_neg hc2] at hf
        refine t_cT (t := 55) (rfl : mfetch 84 48 = some (48, .if_icmp .ne 7, 3, 0, 0, 0)) rfl (k_ne hc2) ?_
        refine mEnds.stp 3 (pc' := 59) (l' := [some (.ref 10), some (.int x1), some (.int x2), some (.int x3), some (.int x4), some (.int x5), some (.ref x6), some (.long x7), none, some (.int x9), none, none]) (st' := [.int ((nI 10) - x3)]) (fun _ => rfl) ?_
        refine mEnds.cut (l := [some (.ref 10), some (.int x1), some (.int x2), some (.int x3), some (.int x4), some (.int x5), some (.ref x6), some (.long x7), none, some (.int x9), none, none]) ⟨rfl, ⟨rfl, ⟨rfl, ⟨rfl, ⟨rfl, ⟨rfl, ⟨rfl, ⟨rfl, ⟨rfl, trivial⟩⟩⟩⟩⟩⟩⟩⟩⟩ ?_
        exact ok_C_weighed_59 hD hkr hx6 (ok_C_weighed_39 hD hkr hx6 fu) hf
def C_weighed : Nat → Int32 → Int32 → Int32 → Int32 → Int32 → sg → Option (Int64 × sg)
  | 0, _, _, _, _, _, _ => none
  | dp + 1, x1, x2, x3, x4, x5, s =>
  (midx x1 10).bind fun j1 =>
  if x1 < x2 then
    if x1 + (nI 1) < nI 10 then
      C_weighed_39 (C_weighed dp) x1 x2 x3 x4 x5 (53 + 8 * j1) FU (0 : Int64) (nI 0) s
    else
      C_weighed_21 (C_weighed dp) x4 x5 (53 + 8 * j1) s
  else
    C_weighed_21 (C_weighed dp) x4 x5 (53 + 8 * j1) s
set_option maxRecDepth 100000 in
theorem ok_C_weighed : ∀ (dp : Nat) (x1 : Int32) (x2 : Int32) (x3 : Int32) (x4 : Int32) (x5 : Int32) (s : sg) (rv : (Int64 × sg)), C_weighed dp x1 x2 x3 x4 x5 s = some rv → mEnds [] (3 + dp) 84 (0, [some (.ref 10), some (.int x1), some (.int x2), some (.int x3), some (.int x4), some (.int x5), none, none, none, none, none, none], [], hp shC s, 0, 0) (some (.long rv.1), hp shC rv.2, 0, 0)
  | 0, _, _, _, _, _, _, _, hf => by cases hf
  | dp + 1, x1, x2, x3, x4, x5, s, rv, hf => by
    have hD : 3 ≤ 3 + dp := Nat.le_add_right _ _
    have hkr := ok_C_weighed dp
    show mEnds [] (3 + dp + 1) 84 _ _
    rw [C_weighed] at hf
    refine mEnds.stp 1 (pc' := 1) (l' := [some (.ref 10), some (.int x1), some (.int x2), some (.int x3), some (.int x4), some (.int x5), none, none, none, none, none, none]) (st' := [.ref 10]) (fun _ => rfl) ?_
    refine t_gr (rfl : mfetch 84 1 = some (1, .getfield 24, 3, 4, 3, 0)) rfl rfl ?_
    refine mEnds.stp 1 (pc' := 5) (l' := [some (.ref 10), some (.int x1), some (.int x2), some (.int x3), some (.int x4), some (.int x5), none, none, none, none, none, none]) (st' := [.int x1, .ref 21]) (fun _ => rfl) ?_
    obtain ⟨j1, hj1, hf⟩ := ob hf
    refine t_aa (rfl : mfetch 84 5 = some (5, .aaload, 1, 0, 0, 0)) rfl rfl rfl hj1 (el_tr (mi_lt hj1)) ?_
    refine mEnds.stp 3 (pc' := 10) (l' := [some (.ref 10), some (.int x1), some (.int x2), some (.int x3), some (.int x4), some (.int x5), some (.ref (53 + 8 * j1)), none, none, none, none, none]) (st' := [.int x2, .int x1]) (fun _ => rfl) ?_
    by_cases hc1 : x1 < x2
    · rw [if_pos hc1] at hf
      refine t_cF (rfl : mfetch 84 10 = some (10, .if_icmp .ge 11, 3, 0, 0, 0)) (k_ge' hc1) ?_
      refine mEnds.stp 4 (pc' := 18) (l' := [some (.ref 10), some (.int x1), some (.int x2), some (.int x3), some (.int x4), some (.int x5), some (.ref (53 + 8 * j1)), none, none, none, none, none]) (st' := [.int (nI 10), .int (x1 + (nI 1))]) (fun _ => rfl) ?_
      by_cases hc2 : x1 + (nI 1) < nI 10
      · rw [if_pos hc2] at hf
        refine t_cT (t := 33) (rfl : mfetch 84 18 = some (18, .if_icmp .lt 15, 3, 0, 0, 0)) rfl (k_lt hc2) ?_
        refine mEnds.stp 4 (pc' := 39) (l' := [some (.ref 10), some (.int x1), some (.int x2), some (.int x3), some (.int x4), some (.int x5), some (.ref (53 + 8 * j1)), some (.long (0 : Int64)), none, some (.int (nI 0)), none, none]) (st' := []) (fun _ => rfl) ?_
        refine mEnds.cut (l := [some (.ref 10), some (.int x1), some (.int x2), some (.int x3), some (.int x4), some (.int x5), some (.ref (53 + 8 * j1)), some (.long (0 : Int64)), none, some (.int (nI 0)), none, none]) ⟨rfl, ⟨rfl, ⟨rfl, ⟨rfl, ⟨rfl, ⟨rfl, ⟨rfl, ⟨rfl, ⟨rfl, trivial⟩⟩⟩⟩⟩⟩⟩⟩⟩ ?_
        exact ok_C_weighed_39 hD hkr (isH_tr (mi_lt hj1)) FU (0 : Int64) (nI 0) s _ hf
      · rw [if_neg hc2] at hf
        refine t_cF (rfl : mfetch 84 18 = some (18, .if_icmp .lt 15, 3, 0, 0, 0)) (k_lt' hc2) ?_
        refine mEnds.cut (l := [some (.ref 10), none, none, none, some (.int x4), some (.int x5), some (.ref (53 + 8 * j1)), none, none, none, none, none]) ⟨rfl, ⟨rfl, ⟨rfl, ⟨rfl, trivial⟩⟩⟩⟩ ?_
        exact ok_C_weighed_21 hD hkr (isH_tr (mi_lt hj1)) hf
    · rw [if_neg hc1] at hf
      refine t_cT (t := 21) (rfl : mfetch 84 10 = some (10, .if_icmp .ge 11, 3, 0, 0, 0)) rfl (k_ge hc1) ?_
      refine mEnds.cut (l := [some (.ref 10), none, none, none, some (.int x4), some (.int x5), some (.ref (53 + 8 * j1)), none, none, none, none, none]) ⟨rfl, ⟨rfl, ⟨rfl, ⟨rfl, trivial⟩⟩⟩⟩ ?_
      exact ok_C_weighed_21 hD hkr (isH_tr (mi_lt hj1)) hf
def C_tenTo_4 (x0 : Int32) (s : sg) : Nat → Int64 → Int32 → Option Int64
  | 0, _, _ => none
  | fu + 1, x1, x3 =>
  if x3 < x0 then
    C_tenTo_4 x0 s fu (x1 * (10 : Int64)) (x3 + (nI 1))
  else
    some x1
set_option maxRecDepth 100000 in
theorem ok_C_tenTo_4 {x0 : Int32} {s : sg} : ∀ (fu : Nat) (x1 : Int64) (x3 : Int32) (rv : Int64), C_tenTo_4 x0 s fu x1 x3 = some rv → mEnds [] 0 86 (4, [some (.int x0), some (.long x1), none, some (.int x3)], [], hp shC s, 0, 0) (some (.long rv), hp shC s, 0, 0)
  | 0, _, _, _, hf => by cases hf
  | fu + 1, x1, x3, rv, hf => by
    rw [C_tenTo_4] at hf
    refine mEnds.stp 2 (pc' := 6) (l' := [some (.int x0), some (.long x1), none, some (.int x3)]) (st' := [.int x0, .int x3]) (fun _ => rfl) ?_
    by_cases hc1 : x3 < x0
    · rw [if_pos hc1] at hf
      refine t_cF (rfl : mfetch 86 6 = some (6, .if_icmp .ge 15, 3, 0, 0, 0)) (k_ge' hc1) ?_
      refine mEnds.stp 6 (pc' := 4) (l' := [some (.int x0), some (.long (x1 * (10 : Int64))), none, some (.int (x3 + (nI 1)))]) (st' := []) (fun _ => rfl) ?_
      refine mEnds.cut (l := [some (.int x0), some (.long (x1 * (10 : Int64))), none, some (.int (x3 + (nI 1)))]) ⟨rfl, ⟨rfl, ⟨rfl, trivial⟩⟩⟩ ?_
      exact ok_C_tenTo_4 fu (x1 * (10 : Int64)) (x3 + (nI 1)) _ hf
    · rw [if_neg hc1] at hf
      refine t_cT (t := 21) (rfl : mfetch 86 6 = some (6, .if_icmp .ge 15, 3, 0, 0, 0)) rfl (k_ge hc1) ?_
      refine mEnds.stp 1 (pc' := 22) (l' := [some (.int x0), some (.long x1), none, some (.int x3)]) (st' := [.long x1]) (fun _ => rfl) ?_
      cases hf; exact mEnds.rt (fun _ => rfl)
def C_tenTo (x0 : Int32) (s : sg) : Option Int64 :=
  C_tenTo_4 x0 s FU (1 : Int64) (nI 0)
set_option maxRecDepth 100000 in
theorem ok_C_tenTo {x0 : Int32} {s : sg} {rv : Int64} (hf : C_tenTo x0 s = some rv) : mEnds [] 0 86 (0, [some (.int x0), none, none, none], [], hp shC s, 0, 0) (some (.long rv), hp shC s, 0, 0) := by
  unfold C_tenTo at hf
  refine mEnds.stp 4 (pc' := 4) (l' := [some (.int x0), some (.long (1 : Int64)), none, some (.int (nI 0))]) (st' := []) (fun _ => rfl) ?_
  refine mEnds.cut (l := [some (.int x0), some (.long (1 : Int64)), none, some (.int (nI 0))]) ⟨rfl, ⟨rfl, ⟨rfl, trivial⟩⟩⟩ ?_
  exact ok_C_tenTo_4 FU (1 : Int64) (nI 0) _ hf
def C_commonDivisor_33 (x0 : Int64) (s : sg) : Option Int64 :=
  some (if (1 : Int64) < x0 then x0 else (1 : Int64))
set_option maxRecDepth 100000 in
theorem ok_C_commonDivisor_33 {x0 : Int64} {s : sg} {rv : Int64} (hf : C_commonDivisor_33 x0 s = some rv) : mEnds [] 0 88 (33, [some (.long x0), none, none, none, none, none, none], [], hp shC s, 0, 0) (some (.long rv), hp shC s, 0, 0) := by
  unfold C_commonDivisor_33 at hf
  refine mEnds.stp 3 (pc' := 38) (l' := [some (.long x0), none, none, none, none, none, none]) (st' := [.long (if (1 : Int64) < x0 then x0 else (1 : Int64))]) (fun _ => rfl) ?_
  cases hf; exact mEnds.rt (fun _ => rfl)
def C_commonDivisor_3 (s : sg) : Nat → Int64 → Int64 → Int32 → Option Int64
  | 0, _, _, _ => none
  | fu + 1, x0, x2, x4 =>
  if x4 < nI 200 then
    if x2 = (0 : Int64) then
      C_commonDivisor_33 x0 s
    else
      if x2 = 0 then none else
        C_commonDivisor_3 s fu x2 (x0 - x0 / x2 * x2) (x4 + (nI 1))
  else
    C_commonDivisor_33 x0 s
set_option maxRecDepth 100000 in
theorem ok_C_commonDivisor_3 {s : sg} : ∀ (fu : Nat) (x0 : Int64) (x2 : Int64) (x4 : Int32) (rv : Int64), C_commonDivisor_3 s fu x0 x2 x4 = some rv → mEnds [] 0 88 (3, [some (.long x0), none, some (.long x2), none, some (.int x4), none, none], [], hp shC s, 0, 0) (some (.long rv), hp shC s, 0, 0)
  | 0, _, _, _, _, hf => by cases hf
  | fu + 1, x0, x2, x4, rv, hf => by
    rw [C_commonDivisor_3] at hf
    refine mEnds.stp 2 (pc' := 8) (l' := [some (.long x0), none, some (.long x2), none, some (.int x4), none, none]) (st' := [.int (nI 200), .int x4]) (fun _ => rfl) ?_
    by_cases hc1 : x4 < nI 200
    · rw [if_pos hc1] at hf
      refine t_cF (rfl : mfetch 88 8 = some (8, .if_icmp .ge 25, 3, 0, 0, 0)) (k_ge' hc1) ?_
      refine mEnds.stp 2 (pc' := 13) (l' := [some (.long x0), none, some (.long x2), none, some (.int x4), none, none]) (st' := [.long (0 : Int64), .long x2]) (fun _ => rfl) ?_
      refine mEnds.stp 1 (pc' := 14) (l' := [some (.long x0), none, some (.long x2), none, some (.int x4), none, none]) (st' := [.int (lg_cmp x2 (0 : Int64))]) (fun _ => rfl) ?_
      by_cases hc2 : x2 = (0 : Int64)
      · rw [if_pos hc2] at hf
        refine t_jT (t := 33) (rfl : mfetch 88 14 = some (14, .ifCond .eq 19, 3, 0, 0, 0)) rfl (l_eq hc2) ?_
        refine mEnds.cut (l := [some (.long x0), none, none, none, none, none, none]) ⟨rfl, trivial⟩ ?_
        exact ok_C_commonDivisor_33 hf
      · rw [if_neg hc2] at hf
        refine t_jF (rfl : mfetch 88 14 = some (14, .ifCond .eq 19, 3, 0, 0, 0)) (l_eq' hc2) ?_
        refine mEnds.stp 2 (pc' := 19) (l' := [some (.long x0), none, some (.long x2), none, some (.int x4), none, none]) (st' := [.long x2, .long x0]) (fun _ => rfl) ?_
        by_cases hc3 : x2 = 0
        · rw [if_pos hc3] at hf; cases hf
        · rw [if_neg hc3] at hf
          refine t_lr (rfl : mfetch 88 19 = some (19, .lrem, 1, 0, 0, 0)) hc3 ?_
          refine mEnds.stp 7 (pc' := 3) (l' := [some (.long x2), none, some (.long (x0 - x0 / x2 * x2)), none, some (.int (x4 + (nI 1))), some (.long (x0 - x0 / x2 * x2)), none]) (st' := []) (fun _ => rfl) ?_
          refine mEnds.cut (l := [some (.long x2), none, some (.long (x0 - x0 / x2 * x2)), none, some (.int (x4 + (nI 1))), none, none]) ⟨rfl, ⟨rfl, ⟨rfl, trivial⟩⟩⟩ ?_
          exact ok_C_commonDivisor_3 fu x2 (x0 - x0 / x2 * x2) (x4 + (nI 1)) _ hf
    · rw [if_neg hc1] at hf
      refine t_cT (t := 33) (rfl : mfetch 88 8 = some (8, .if_icmp .ge 25, 3, 0, 0, 0)) rfl (k_ge hc1) ?_
      refine mEnds.cut (l := [some (.long x0), none, none, none, none, none, none]) ⟨rfl, trivial⟩ ?_
      exact ok_C_commonDivisor_33 hf
def C_commonDivisor (x0 : Int64) (x2 : Int64) (s : sg) : Option Int64 :=
  C_commonDivisor_3 s FU x0 x2 (nI 0)
set_option maxRecDepth 100000 in
theorem ok_C_commonDivisor {x0 : Int64} {x2 : Int64} {s : sg} {rv : Int64} (hf : C_commonDivisor x0 x2 s = some rv) : mEnds [] 0 88 (0, [some (.long x0), none, some (.long x2), none, none, none, none], [], hp shC s, 0, 0) (some (.long rv), hp shC s, 0, 0) := by
  unfold C_commonDivisor at hf
  refine mEnds.stp 2 (pc' := 3) (l' := [some (.long x0), none, some (.long x2), none, some (.int (nI 0)), none, none]) (st' := []) (fun _ => rfl) ?_
  refine mEnds.cut (l := [some (.long x0), none, some (.long x2), none, some (.int (nI 0)), none, none]) ⟨rfl, ⟨rfl, ⟨rfl, trivial⟩⟩⟩ ?_
  exact ok_C_commonDivisor_3 FU x0 x2 (nI 0) _ hf
def C_ofFraction (x0 : Int64) (x2 : Int64) (x4 : Int32) (s : sg) : Option Int64 :=
  (C_commonDivisor x0 x2 s).bind fun v1 =>
  if x4 = 0 then
    if v1 = 0 then none else
      some (x0 / v1)
  else
    if v1 = 0 then none else
      some (x2 / v1)
set_option maxRecDepth 100000 in
theorem ok_C_ofFraction {x0 : Int64} {x2 : Int64} {x4 : Int32} {s : sg} {rv : Int64} (hf : C_ofFraction x0 x2 x4 s = some rv) : mEnds [] 1 87 (0, [some (.long x0), none, some (.long x2), none, some (.int x4), none, none], [], hp shC s, 0, 0) (some (.long rv), hp shC s, 0, 0) := by
  unfold C_ofFraction at hf
  refine mEnds.stp 2 (pc' := 2) (l' := [some (.long x0), none, some (.long x2), none, some (.int x4), none, none]) (st' := [.long x2, .long x0]) (fun _ => rfl) ?_
  obtain ⟨v1, hv1, hf⟩ := ob hf
  refine t_cs (as := [.long x0, .long x2]) (st := []) (Or.inl rfl) (rfl : mfetch 87 2 = some (2, .invokestatic 227, 3, 88, 0, 0)) rfl rfl rfl (ok_C_commonDivisor hv1) ?_
  refine mEnds.stp 2 (pc' := 9) (l' := [some (.long x0), none, some (.long x2), none, some (.int x4), some (.long v1), none]) (st' := [.int x4]) (fun _ => rfl) ?_
  by_cases hc1 : x4 = 0
  · rw [if_pos hc1] at hf
    refine t_jF (rfl : mfetch 87 9 = some (9, .ifCond .ne 10, 3, 0, 0, 0)) (k_ne' hc1) ?_
    refine mEnds.stp 2 (pc' := 15) (l' := [some (.long x0), none, some (.long x2), none, some (.int x4), some (.long v1), none]) (st' := [.long v1, .long x0]) (fun _ => rfl) ?_
    by_cases hc3 : v1 = 0
    · rw [if_pos hc3] at hf; cases hf
    · rw [if_neg hc3] at hf
      refine t_ld (rfl : mfetch 87 15 = some (15, .ldiv, 1, 0, 0, 0)) hc3 ?_
      refine mEnds.stp 1 (pc' := 23) (l' := [some (.long x0), none, some (.long x2), none, some (.int x4), some (.long v1), none]) (st' := [.long (x0 / v1)]) (fun _ => rfl) ?_
      cases hf; exact mEnds.rt (fun _ => rfl)
  · rw [if_neg hc1] at hf
    refine t_jT (t := 19) (rfl : mfetch 87 9 = some (9, .ifCond .ne 10, 3, 0, 0, 0)) rfl (k_ne hc1) ?_
    refine mEnds.stp 2 (pc' := 22) (l' := [some (.long x0), none, some (.long x2), none, some (.int x4), some (.long v1), none]) (st' := [.long v1, .long x2]) (fun _ => rfl) ?_
    by_cases hc2 : v1 = 0
    · rw [if_pos hc2] at hf; cases hf
    · rw [if_neg hc2] at hf
      refine t_ld (rfl : mfetch 87 22 = some (22, .ldiv, 1, 0, 0, 0)) hc2 ?_
      cases hf; exact mEnds.rt (fun _ => rfl)
def C_luck (x1 : Int32) (x2 : Int32) (x3 : Int32) (x4 : Int32) (x5 : Int32) (s : sg) : Option (Int64 × sg) :=
  (C_fuseIsAsTold x1 x3 x5 s).bind fun v1 =>
  if v1 = 0 then
    some ((-1 : Int64), s)
  else
    (H_hasRoom 11 x2 s).bind fun v2 =>
    if v2 = 0 then
      some ((-1 : Int64), s)
    else
      (C_within x4 (nI 0) (nI 99) s).bind fun v3 =>
      if v3 = 0 then
        some ((-1 : Int64), s)
      else
        (H_copyFrom 53 11 s).bind fun s1 =>
        (C_weighed 10 (nI 0) x3 x1 x2 x4 s1).bind fun v5 =>
        (C_tenTo x3 v5.2).bind fun v6 =>
        (C_ofFraction v5.1 v6 x5 v5.2).bind fun v7 =>
        some (v7, v5.2)
set_option maxRecDepth 100000 in
theorem ok_C_luck {x1 : Int32} {x2 : Int32} {x3 : Int32} {x4 : Int32} {x5 : Int32} {s : sg} {rv : (Int64 × sg)} (hf : C_luck x1 x2 x3 x4 x5 s = some rv) : mEnds [] 14 81 (0, [some (.ref 10), some (.int x1), some (.int x2), some (.int x3), some (.int x4), some (.int x5)], [], hp shC s, 0, 0) (some (.long rv.1), hp shC rv.2, 0, 0) := by
  unfold C_luck at hf
  refine mEnds.stp 3 (pc' := 4) (l' := [some (.ref 10), some (.int x1), some (.int x2), some (.int x3), some (.int x4), some (.int x5)]) (st' := [.int x5, .int x3, .int x1]) (fun _ => rfl) ?_
  obtain ⟨v1, hv1, hf⟩ := ob hf
  refine t_cs (as := [.int x1, .int x3, .int x5]) (st := []) (Or.inl rfl) (rfl : mfetch 81 4 = some (4, .invokestatic 200, 3, 83, 0, 0)) rfl rfl rfl ((ok_C_fuseIsAsTold hv1).deep 12) ?_
  by_cases hc1 : v1 = 0
  · rw [if_pos hc1] at hf
    refine t_jT (t := 32) (rfl : mfetch 81 7 = some (7, .ifCond .eq 25, 3, 0, 0, 0)) rfl (k_eq hc1) ?_
    refine mEnds.stp 1 (pc' := 35) (l' := [some (.ref 10), some (.int x1), some (.int x2), some (.int x3), some (.int x4), some (.int x5)]) (st' := [.long (-1 : Int64)]) (fun _ => rfl) ?_
    exact mEnds.rtl (Option.some.inj hf) (fun _ => rfl)
  · rw [if_neg hc1] at hf
    refine t_jF (rfl : mfetch 81 7 = some (7, .ifCond .eq 25, 3, 0, 0, 0)) (k_eq' hc1) ?_
    refine mEnds.stp 1 (pc' := 11) (l' := [some (.ref 10), some (.int x1), some (.int x2), some (.int x3), some (.int x4), some (.int x5)]) (st' := [.ref 10]) (fun _ => rfl) ?_
    refine t_gr (rfl : mfetch 81 11 = some (11, .getfield 10, 3, 4, 0, 0)) rfl rfl ?_
    refine mEnds.stp 1 (pc' := 15) (l' := [some (.ref 10), some (.int x1), some (.int x2), some (.int x3), some (.int x4), some (.int x5)]) (st' := [.int x2, .ref 11]) (fun _ => rfl) ?_
    obtain ⟨v2, hv2, hf⟩ := ob hf
    refine t_cv (as := [.int x2]) (st := []) (rfl : mfetch 81 15 = some (15, .invokevirtual 105, 3, 8, 0, 0)) rfl rfl rfl rfl rfl ((ok_H_hasRoom isH_11 hv2).deep 13) ?_
    by_cases hc2 : v2 = 0
    · rw [if_pos hc2] at hf
      refine t_jT (t := 32) (rfl : mfetch 81 18 = some (18, .ifCond .eq 14, 3, 0, 0, 0)) rfl (k_eq hc2) ?_
      refine mEnds.stp 1 (pc' := 35) (l' := [some (.ref 10), some (.int x1), some (.int x2), some (.int x3), some (.int x4), some (.int x5)]) (st' := [.long (-1 : Int64)]) (fun _ => rfl) ?_
      exact mEnds.rtl (Option.some.inj hf) (fun _ => rfl)
    · rw [if_neg hc2] at hf
      refine t_jF (rfl : mfetch 81 18 = some (18, .ifCond .eq 14, 3, 0, 0, 0)) (k_eq' hc2) ?_
      refine mEnds.stp 3 (pc' := 26) (l' := [some (.ref 10), some (.int x1), some (.int x2), some (.int x3), some (.int x4), some (.int x5)]) (st' := [.int (nI 99), .int (nI 0), .int x4]) (fun _ => rfl) ?_
      obtain ⟨v3, hv3, hf⟩ := ob hf
      refine t_cs (as := [.int x4, .int (nI 0), .int (nI 99)]) (st := []) (Or.inl rfl) (rfl : mfetch 81 26 = some (26, .invokestatic 48, 3, 105, 0, 0)) rfl rfl rfl ((ok_C_within hv3).deep 13) ?_
      by_cases hc3 : v3 = 0
      · rw [if_pos hc3] at hf
        refine t_jF (rfl : mfetch 81 29 = some (29, .ifCond .ne 7, 3, 0, 0, 0)) (k_ne' hc3) ?_
        refine mEnds.stp 1 (pc' := 35) (l' := [some (.ref 10), some (.int x1), some (.int x2), some (.int x3), some (.int x4), some (.int x5)]) (st' := [.long (-1 : Int64)]) (fun _ => rfl) ?_
        exact mEnds.rtl (Option.some.inj hf) (fun _ => rfl)
      · rw [if_neg hc3] at hf
        refine t_jT (t := 36) (rfl : mfetch 81 29 = some (29, .ifCond .ne 7, 3, 0, 0, 0)) rfl (k_ne hc3) ?_
        refine mEnds.stp 1 (pc' := 37) (l' := [some (.ref 10), some (.int x1), some (.int x2), some (.int x3), some (.int x4), some (.int x5)]) (st' := [.ref 10]) (fun _ => rfl) ?_
        refine t_gr (rfl : mfetch 81 37 = some (37, .getfield 24, 3, 4, 3, 0)) rfl rfl ?_
        refine mEnds.stp 1 (pc' := 41) (l' := [some (.ref 10), some (.int x1), some (.int x2), some (.int x3), some (.int x4), some (.int x5)]) (st' := [.int (nI 0), .ref 21]) (fun _ => rfl) ?_
        refine t_aa (j := 0) (rfl : mfetch 81 41 = some (41, .aaload, 1, 0, 0, 0)) rfl rfl rfl rfl rfl ?_
        refine mEnds.stp 1 (pc' := 43) (l' := [some (.ref 10), some (.int x1), some (.int x2), some (.int x3), some (.int x4), some (.int x5)]) (st' := [.ref 10, .ref 53]) (fun _ => rfl) ?_
        refine t_gr (rfl : mfetch 81 43 = some (43, .getfield 10, 3, 4, 0, 0)) rfl rfl ?_
        obtain ⟨s1, hs1, hf⟩ := ob hf
        refine t_cv (as := [.ref 11]) (st := []) (rfl : mfetch 81 46 = some (46, .invokevirtual 70, 3, 7, 0, 0)) rfl rfl rfl rfl rfl ((ok_H_copyFrom isH_53 isH_11 hs1).deep 13) ?_
        refine mEnds.stp 6 (pc' := 56) (l' := [some (.ref 10), some (.int x1), some (.int x2), some (.int x3), some (.int x4), some (.int x5)]) (st' := [.int x4, .int x2, .int x1, .int x3, .int (nI 0), .ref 10]) (fun _ => rfl) ?_
        obtain ⟨v5, hv5, hf⟩ := ob hf
        refine t_cv (as := [.int (nI 0), .int x3, .int x1, .int x2, .int x4]) (st := []) (rfl : mfetch 81 56 = some (56, .invokevirtual 205, 3, 84, 0, 0)) rfl rfl rfl rfl rfl (ok_C_weighed 10 (nI 0) x3 x1 x2 x4 s1 _ hv5) ?_
        refine mEnds.stp 1 (pc' := 60) (l' := [some (.ref 10), some (.int x1), some (.int x2), some (.int x3), some (.int x4), some (.int x5)]) (st' := [.int x3, .long v5.1]) (fun _ => rfl) ?_
        obtain ⟨v6, hv6, hf⟩ := ob hf
        refine t_cs (as := [.int x3]) (st := [.long v5.1]) (Or.inl rfl) (rfl : mfetch 81 60 = some (60, .invokestatic 209, 3, 86, 0, 0)) rfl rfl rfl ((ok_C_tenTo hv6).deep 13) ?_
        refine mEnds.stp 1 (pc' := 65) (l' := [some (.ref 10), some (.int x1), some (.int x2), some (.int x3), some (.int x4), some (.int x5)]) (st' := [.int x5, .long v6, .long v5.1]) (fun _ => rfl) ?_
        obtain ⟨v7, hv7, hf⟩ := ob hf
        refine t_cs (as := [.long v5.1, .long v6, .int x5]) (st := []) (Or.inl rfl) (rfl : mfetch 81 65 = some (65, .invokestatic 213, 3, 87, 0, 0)) rfl rfl rfl ((ok_C_ofFraction hv7).deep 12) ?_
        exact mEnds.rtl (Option.some.inj hf) (fun _ => rfl)
def C_mean (x1 : Int32) (x2 : Int32) (x3 : Int32) (s : sg) : Option (Int64 × sg) :=
  (C_fuseIsAsTold x1 x2 x3 s).bind fun v1 =>
  if v1 = 0 then
    some ((-1 : Int64), s)
  else
    (H_copyFrom 53 11 s).bind fun s1 =>
    (C_weighed 10 (nI 0) x2 x1 (-4) (nI 0) s1).bind fun v3 =>
    (C_tenTo x2 v3.2).bind fun v4 =>
    (C_ofFraction v3.1 v4 x3 v3.2).bind fun v5 =>
    some (v5, v3.2)
set_option maxRecDepth 100000 in
theorem ok_C_mean {x1 : Int32} {x2 : Int32} {x3 : Int32} {s : sg} {rv : (Int64 × sg)} (hf : C_mean x1 x2 x3 s = some rv) : mEnds [] 14 82 (0, [some (.ref 10), some (.int x1), some (.int x2), some (.int x3)], [], hp shC s, 0, 0) (some (.long rv.1), hp shC rv.2, 0, 0) := by
  unfold C_mean at hf
  refine mEnds.stp 3 (pc' := 3) (l' := [some (.ref 10), some (.int x1), some (.int x2), some (.int x3)]) (st' := [.int x3, .int x2, .int x1]) (fun _ => rfl) ?_
  obtain ⟨v1, hv1, hf⟩ := ob hf
  refine t_cs (as := [.int x1, .int x2, .int x3]) (st := []) (Or.inl rfl) (rfl : mfetch 82 3 = some (3, .invokestatic 200, 3, 83, 0, 0)) rfl rfl rfl ((ok_C_fuseIsAsTold hv1).deep 12) ?_
  by_cases hc1 : v1 = 0
  · rw [if_pos hc1] at hf
    refine t_jF (rfl : mfetch 82 6 = some (6, .ifCond .ne 7, 3, 0, 0, 0)) (k_ne' hc1) ?_
    refine mEnds.stp 1 (pc' := 12) (l' := [some (.ref 10), some (.int x1), some (.int x2), some (.int x3)]) (st' := [.long (-1 : Int64)]) (fun _ => rfl) ?_
    exact mEnds.rtl (Option.some.inj hf) (fun _ => rfl)
  · rw [if_neg hc1] at hf
    refine t_jT (t := 13) (rfl : mfetch 82 6 = some (6, .ifCond .ne 7, 3, 0, 0, 0)) rfl (k_ne hc1) ?_
    refine mEnds.stp 1 (pc' := 14) (l' := [some (.ref 10), some (.int x1), some (.int x2), some (.int x3)]) (st' := [.ref 10]) (fun _ => rfl) ?_
    refine t_gr (rfl : mfetch 82 14 = some (14, .getfield 24, 3, 4, 3, 0)) rfl rfl ?_
    refine mEnds.stp 1 (pc' := 18) (l' := [some (.ref 10), some (.int x1), some (.int x2), some (.int x3)]) (st' := [.int (nI 0), .ref 21]) (fun _ => rfl) ?_
    refine t_aa (j := 0) (rfl : mfetch 82 18 = some (18, .aaload, 1, 0, 0, 0)) rfl rfl rfl rfl rfl ?_
    refine mEnds.stp 1 (pc' := 20) (l' := [some (.ref 10), some (.int x1), some (.int x2), some (.int x3)]) (st' := [.ref 10, .ref 53]) (fun _ => rfl) ?_
    refine t_gr (rfl : mfetch 82 20 = some (20, .getfield 10, 3, 4, 0, 0)) rfl rfl ?_
    obtain ⟨s1, hs1, hf⟩ := ob hf
    refine t_cv (as := [.ref 11]) (st := []) (rfl : mfetch 82 23 = some (23, .invokevirtual 70, 3, 7, 0, 0)) rfl rfl rfl rfl rfl ((ok_H_copyFrom isH_53 isH_11 hs1).deep 13) ?_
    refine mEnds.stp 6 (pc' := 33) (l' := [some (.ref 10), some (.int x1), some (.int x2), some (.int x3)]) (st' := [.int (nI 0), .int (-4), .int x1, .int x2, .int (nI 0), .ref 10]) (fun _ => rfl) ?_
    obtain ⟨v3, hv3, hf⟩ := ob hf
    refine t_cv (as := [.int (nI 0), .int x2, .int x1, .int (-4), .int (nI 0)]) (st := []) (rfl : mfetch 82 33 = some (33, .invokevirtual 205, 3, 84, 0, 0)) rfl rfl rfl rfl rfl (ok_C_weighed 10 (nI 0) x2 x1 (-4) (nI 0) s1 _ hv3) ?_
    refine mEnds.stp 1 (pc' := 37) (l' := [some (.ref 10), some (.int x1), some (.int x2), some (.int x3)]) (st' := [.int x2, .long v3.1]) (fun _ => rfl) ?_
    obtain ⟨v4, hv4, hf⟩ := ob hf
    refine t_cs (as := [.int x2]) (st := [.long v3.1]) (Or.inl rfl) (rfl : mfetch 82 37 = some (37, .invokestatic 209, 3, 86, 0, 0)) rfl rfl rfl ((ok_C_tenTo hv4).deep 13) ?_
    refine mEnds.stp 1 (pc' := 41) (l' := [some (.ref 10), some (.int x1), some (.int x2), some (.int x3)]) (st' := [.int x3, .long v4, .long v3.1]) (fun _ => rfl) ?_
    obtain ⟨v5, hv5, hf⟩ := ob hf
    refine t_cs (as := [.long v3.1, .long v4, .int x3]) (st := []) (Or.inl rfl) (rfl : mfetch 82 41 = some (41, .invokestatic 213, 3, 87, 0, 0)) rfl rfl rfl ((ok_C_ofFraction hv5).deep 12) ?_
    exact mEnds.rtl (Option.some.inj hf) (fun _ => rfl)
def C_see (x1 : Int32) (x2 : Int32) (x3 : Int32) (s : sg) : Option (Int32 × sg) :=
  (C_within x1 (nI 0) (nI 20) s).bind fun v1 =>
  if v1 = 0 then
    some ((-1), s)
  else
    (H_hasRoom 11 x2 s).bind fun v2 =>
    if v2 = 0 then
      some ((-1), s)
    else
      (C_within x3 (nI 0) (nI 99) s).bind fun v3 =>
      if v3 = 0 then
        some ((-1), s)
      else
        (F_put x1 x2 x3 s).bind fun v4 =>
        if v4.1 = 0 then
          some ((-3), v4.2)
        else
          some (v4.2 23 3, v4.2)
set_option maxRecDepth 100000 in
theorem ok_C_see {x1 : Int32} {x2 : Int32} {x3 : Int32} {s : sg} {rv : (Int32 × sg)} (hf : C_see x1 x2 x3 s = some rv) : mEnds [] 1 89 (0, [some (.ref 10), some (.int x1), some (.int x2), some (.int x3)], [], hp shC s, 0, 0) (some (.int rv.1), hp shC rv.2, 0, 0) := by
  unfold C_see at hf
  refine mEnds.stp 3 (pc' := 4) (l' := [some (.ref 10), some (.int x1), some (.int x2), some (.int x3)]) (st' := [.int (nI 20), .int (nI 0), .int x1]) (fun _ => rfl) ?_
  obtain ⟨v1, hv1, hf⟩ := ob hf
  refine t_cs (as := [.int x1, .int (nI 0), .int (nI 20)]) (st := []) (Or.inl rfl) (rfl : mfetch 89 4 = some (4, .invokestatic 48, 3, 105, 0, 0)) rfl rfl rfl (ok_C_within hv1) ?_
  by_cases hc1 : v1 = 0
  · rw [if_pos hc1] at hf
    refine t_jT (t := 31) (rfl : mfetch 89 7 = some (7, .ifCond .eq 24, 3, 0, 0, 0)) rfl (k_eq hc1) ?_
    refine mEnds.stp 1 (pc' := 32) (l' := [some (.ref 10), some (.int x1), some (.int x2), some (.int x3)]) (st' := [.int (-1)]) (fun _ => rfl) ?_
    exact mEnds.rti (Option.some.inj hf) (fun _ => rfl)
  · rw [if_neg hc1] at hf
    refine t_jF (rfl : mfetch 89 7 = some (7, .ifCond .eq 24, 3, 0, 0, 0)) (k_eq' hc1) ?_
    refine mEnds.stp 1 (pc' := 11) (l' := [some (.ref 10), some (.int x1), some (.int x2), some (.int x3)]) (st' := [.ref 10]) (fun _ => rfl) ?_
    refine t_gr (rfl : mfetch 89 11 = some (11, .getfield 10, 3, 4, 0, 0)) rfl rfl ?_
    refine mEnds.stp 1 (pc' := 15) (l' := [some (.ref 10), some (.int x1), some (.int x2), some (.int x3)]) (st' := [.int x2, .ref 11]) (fun _ => rfl) ?_
    obtain ⟨v2, hv2, hf⟩ := ob hf
    refine t_cv (as := [.int x2]) (st := []) (rfl : mfetch 89 15 = some (15, .invokevirtual 105, 3, 8, 0, 0)) rfl rfl rfl rfl rfl (ok_H_hasRoom isH_11 hv2) ?_
    by_cases hc2 : v2 = 0
    · rw [if_pos hc2] at hf
      refine t_jT (t := 31) (rfl : mfetch 89 18 = some (18, .ifCond .eq 13, 3, 0, 0, 0)) rfl (k_eq hc2) ?_
      refine mEnds.stp 1 (pc' := 32) (l' := [some (.ref 10), some (.int x1), some (.int x2), some (.int x3)]) (st' := [.int (-1)]) (fun _ => rfl) ?_
      exact mEnds.rti (Option.some.inj hf) (fun _ => rfl)
    · rw [if_neg hc2] at hf
      refine t_jF (rfl : mfetch 89 18 = some (18, .ifCond .eq 13, 3, 0, 0, 0)) (k_eq' hc2) ?_
      refine mEnds.stp 3 (pc' := 25) (l' := [some (.ref 10), some (.int x1), some (.int x2), some (.int x3)]) (st' := [.int (nI 99), .int (nI 0), .int x3]) (fun _ => rfl) ?_
      obtain ⟨v3, hv3, hf⟩ := ob hf
      refine t_cs (as := [.int x3, .int (nI 0), .int (nI 99)]) (st := []) (Or.inl rfl) (rfl : mfetch 89 25 = some (25, .invokestatic 48, 3, 105, 0, 0)) rfl rfl rfl (ok_C_within hv3) ?_
      by_cases hc3 : v3 = 0
      · rw [if_pos hc3] at hf
        refine t_jF (rfl : mfetch 89 28 = some (28, .ifCond .ne 5, 3, 0, 0, 0)) (k_ne' hc3) ?_
        refine mEnds.stp 1 (pc' := 32) (l' := [some (.ref 10), some (.int x1), some (.int x2), some (.int x3)]) (st' := [.int (-1)]) (fun _ => rfl) ?_
        exact mEnds.rti (Option.some.inj hf) (fun _ => rfl)
      · rw [if_neg hc3] at hf
        refine t_jT (t := 33) (rfl : mfetch 89 28 = some (28, .ifCond .ne 5, 3, 0, 0, 0)) rfl (k_ne hc3) ?_
        refine mEnds.stp 1 (pc' := 34) (l' := [some (.ref 10), some (.int x1), some (.int x2), some (.int x3)]) (st' := [.ref 10]) (fun _ => rfl) ?_
        refine t_gr (rfl : mfetch 89 34 = some (34, .getfield 36, 3, 4, 5, 0)) rfl rfl ?_
        refine mEnds.stp 3 (pc' := 40) (l' := [some (.ref 10), some (.int x1), some (.int x2), some (.int x3)]) (st' := [.int x3, .int x2, .int x1, .ref 23]) (fun _ => rfl) ?_
        obtain ⟨v4, hv4, hf⟩ := ob hf
        refine t_cv (as := [.int x1, .int x2, .int x3]) (st := []) (rfl : mfetch 89 40 = some (40, .invokevirtual 234, 3, 1, 0, 0)) rfl rfl rfl rfl rfl (ok_F_put hv4) ?_
        by_cases hc4 : v4.1 = 0
        · rw [if_pos hc4] at hf
          refine t_jT (t := 56) (rfl : mfetch 89 43 = some (43, .ifCond .eq 13, 3, 0, 0, 0)) rfl (k_eq hc4) ?_
          refine mEnds.stp 1 (pc' := 58) (l' := [some (.ref 10), some (.int x1), some (.int x2), some (.int x3)]) (st' := [.int (-3)]) (fun _ => rfl) ?_
          exact mEnds.rti (Option.some.inj hf) (fun _ => rfl)
        · rw [if_neg hc4] at hf
          refine t_jF (rfl : mfetch 89 43 = some (43, .ifCond .eq 13, 3, 0, 0, 0)) (k_eq' hc4) ?_
          refine mEnds.stp 1 (pc' := 47) (l' := [some (.ref 10), some (.int x1), some (.int x2), some (.int x3)]) (st' := [.ref 10]) (fun _ => rfl) ?_
          refine t_gr (rfl : mfetch 89 47 = some (47, .getfield 36, 3, 4, 5, 0)) rfl rfl ?_
          refine t_gi (rfl : mfetch 89 50 = some (50, .getfield 74, 3, 0, 3, 0)) rfl rfl ?_
          refine mEnds.stp 1 (pc' := 58) (l' := [some (.ref 10), some (.int x1), some (.int x2), some (.int x3)]) (st' := [.int (v4.2 23 3)]) (fun _ => rfl) ?_
          exact mEnds.rti (Option.some.inj hf) (fun _ => rfl)
def C_forget (x1 : Int32) (s : sg) : Option (Int32 × sg) :=
  (C_within x1 (nI 0) (s 23 3) s).bind fun v1 =>
  if v1 = 0 then
    some ((-1), s)
  else
    (some (up s 23 3 x1)).bind fun s1 =>
    some (s 23 3, s1)
set_option maxRecDepth 100000 in
theorem ok_C_forget {x1 : Int32} {s : sg} {rv : (Int32 × sg)} (hf : C_forget x1 s = some rv) : mEnds [] 1 90 (0, [some (.ref 10), some (.int x1), none], [], hp shC s, 0, 0) (some (.int rv.1), hp shC rv.2, 0, 0) := by
  unfold C_forget at hf
  refine mEnds.stp 1 (pc' := 1) (l' := [some (.ref 10), some (.int x1), none]) (st' := [.ref 10]) (fun _ => rfl) ?_
  refine t_gr (rfl : mfetch 90 1 = some (1, .getfield 36, 3, 4, 5, 0)) rfl rfl ?_
  refine t_gi (rfl : mfetch 90 4 = some (4, .getfield 74, 3, 0, 3, 0)) rfl rfl ?_
  refine mEnds.stp 4 (pc' := 11) (l' := [some (.ref 10), some (.int x1), some (.int (s 23 3))]) (st' := [.int (s 23 3), .int (nI 0), .int x1]) (fun _ => rfl) ?_
  obtain ⟨v1, hv1, hf⟩ := ob hf
  refine t_cs (as := [.int x1, .int (nI 0), .int (s 23 3)]) (st := []) (Or.inl rfl) (rfl : mfetch 90 11 = some (11, .invokestatic 48, 3, 105, 0, 0)) rfl rfl rfl (ok_C_within hv1) ?_
  by_cases hc1 : v1 = 0
  · rw [if_pos hc1] at hf
    refine t_jF (rfl : mfetch 90 14 = some (14, .ifCond .ne 5, 3, 0, 0, 0)) (k_ne' hc1) ?_
    refine mEnds.stp 1 (pc' := 18) (l' := [some (.ref 10), some (.int x1), some (.int (s 23 3))]) (st' := [.int (-1)]) (fun _ => rfl) ?_
    exact mEnds.rti (Option.some.inj hf) (fun _ => rfl)
  · rw [if_neg hc1] at hf
    refine t_jT (t := 19) (rfl : mfetch 90 14 = some (14, .ifCond .ne 5, 3, 0, 0, 0)) rfl (k_ne hc1) ?_
    refine mEnds.stp 1 (pc' := 20) (l' := [some (.ref 10), some (.int x1), some (.int (s 23 3))]) (st' := [.ref 10]) (fun _ => rfl) ?_
    refine t_gr (rfl : mfetch 90 20 = some (20, .getfield 36, 3, 4, 5, 0)) rfl rfl ?_
    refine mEnds.stp 1 (pc' := 24) (l' := [some (.ref 10), some (.int x1), some (.int (s 23 3))]) (st' := [.int x1, .ref 23]) (fun _ => rfl) ?_
    obtain ⟨s1, hs1, hf⟩ := ob hf
    refine t_pi (rfl : mfetch 90 24 = some (24, .putfield 74, 3, 0, 3, 0)) rfl rfl rfl rfl hs1 ?_
    refine mEnds.stp 1 (pc' := 28) (l' := [some (.ref 10), some (.int x1), some (.int (s 23 3))]) (st' := [.int (s 23 3)]) (fun _ => rfl) ?_
    exact mEnds.rti (Option.some.inj hf) (fun _ => rfl)
end Q30g
section Q30h
def C_kinds_31 (x1 : Int32) : Nat → Int32 → Int32 → sg → Option (Int32 × sg)
  | 0, _, _, _ => none
  | fu + 1, x2, x3, s =>
  if nI 3 < x3 then
    some (x2, s)
  else
    (C_copyOfNow s).bind fun s1 =>
    (midx x1 6).bind fun j1 =>
    (some (up s1 57 j1 x3)).bind fun s2 =>
    (F_holdIn 53 s2).bind fun v2 =>
    if v2.1 = 0 then
      C_kinds_31 x1 fu x2 (x3 + (nI 1)) v2.2
    else
      C_kinds_31 x1 fu (x2 ||| ((nI 1) <<< (x3 &&& 31))) (x3 + (nI 1)) v2.2
set_option maxRecDepth 100000 in
theorem ok_C_kinds_31 {x1 : Int32} : ∀ (fu : Nat) (x2 : Int32) (x3 : Int32) (s : sg) (rv : (Int32 × sg)), C_kinds_31 x1 fu x2 x3 s = some rv → mEnds [] 5 91 (31, [some (.ref 10), some (.int x1), some (.int x2), some (.int x3), none], [], hp shC s, 0, 0) (some (.int rv.1), hp shC rv.2, 0, 0)
  | 0, _, _, _, _, hf => by cases hf
  | fu + 1, x2, x3, s, rv, hf => by
    rw [C_kinds_31] at hf
    refine mEnds.stp 2 (pc' := 33) (l' := [some (.ref 10), some (.int x1), some (.int x2), some (.int x3), none]) (st' := [.int (nI 3), .int x3]) (fun _ => rfl) ?_
    by_cases hc1 : nI 3 < x3
    · rw [if_pos hc1] at hf
      refine t_cT (t := 74) (rfl : mfetch 91 33 = some (33, .if_icmp .gt 41, 3, 0, 0, 0)) rfl (k_gt hc1) ?_
      refine mEnds.stp 1 (pc' := 75) (l' := [some (.ref 10), some (.int x1), some (.int x2), some (.int x3), none]) (st' := [.int x2]) (fun _ => rfl) ?_
      exact mEnds.rti (Option.some.inj hf) (fun _ => rfl)
    · rw [if_neg hc1] at hf
      refine t_cF (rfl : mfetch 91 33 = some (33, .if_icmp .gt 41, 3, 0, 0, 0)) (k_gt' hc1) ?_
      refine mEnds.stp 1 (pc' := 37) (l' := [some (.ref 10), some (.int x1), some (.int x2), some (.int x3), none]) (st' := [.ref 10]) (fun _ => rfl) ?_
      obtain ⟨s1, hs1, hf⟩ := ob hf
      refine t_cv (as := []) (st := []) (rfl : mfetch 91 37 = some (37, .invokevirtual 167, 3, 109, 0, 0)) rfl rfl rfl rfl rfl ((ok_C_copyOfNow hs1).deep 3) ?_
      refine mEnds.stp 2 (pc' := 44) (l' := [some (.ref 10), some (.int x1), some (.int x2), some (.int x3), some (.ref 53)]) (st' := [.ref 53]) (fun _ => rfl) ?_
      refine t_gr (rfl : mfetch 91 44 = some (44, .getfield 128, 3, 1, 8, 0)) rfl rfl ?_
      refine mEnds.stp 2 (pc' := 49) (l' := [some (.ref 10), some (.int x1), some (.int x2), some (.int x3), some (.ref 53)]) (st' := [.int x3, .int x1, .ref 57]) (fun _ => rfl) ?_
      obtain ⟨j1, hj1, hf⟩ := ob hf
      obtain ⟨s2, hs2, hf⟩ := ob hf
      refine t_is (rfl : mfetch 91 49 = some (49, .iastore, 1, 0, 0, 0)) rfl rfl hj1 hs2 ?_
      refine mEnds.stp 1 (pc' := 51) (l' := [some (.ref 10), some (.int x1), some (.int x2), some (.int x3), some (.ref 53)]) (st' := [.ref 10]) (fun _ => rfl) ?_
      refine t_gr (rfl : mfetch 91 51 = some (51, .getfield 36, 3, 4, 5, 0)) rfl rfl ?_
      refine mEnds.stp 1 (pc' := 56) (l' := [some (.ref 10), some (.int x1), some (.int x2), some (.int x3), some (.ref 53)]) (st' := [.ref 53, .ref 23]) (fun _ => rfl) ?_
      obtain ⟨v2, hv2, hf⟩ := ob hf
      refine t_cv (as := [.ref 53]) (st := []) (rfl : mfetch 91 56 = some (56, .invokevirtual 236, 3, 2, 0, 0)) rfl rfl rfl rfl rfl (ok_F_holdIn isH_53 hv2) ?_
      by_cases hc2 : v2.1 = 0
      · rw [if_pos hc2] at hf
        refine t_jT (t := 68) (rfl : mfetch 91 59 = some (59, .ifCond .eq 9, 3, 0, 0, 0)) rfl (k_eq hc2) ?_
        refine mEnds.stp 2 (pc' := 31) (l' := [some (.ref 10), some (.int x1), some (.int x2), some (.int (x3 + (nI 1))), some (.ref 53)]) (st' := []) (fun _ => rfl) ?_
        refine mEnds.cut (l := [some (.ref 10), some (.int x1), some (.int x2), some (.int (x3 + (nI 1))), none]) ⟨rfl, ⟨rfl, ⟨rfl, ⟨rfl, trivial⟩⟩⟩⟩ ?_
        exact ok_C_kinds_31 fu x2 (x3 + (nI 1)) v2.2 _ hf
      · rw [if_neg hc2] at hf
        refine t_jF (rfl : mfetch 91 59 = some (59, .ifCond .eq 9, 3, 0, 0, 0)) (k_eq' hc2) ?_
        refine mEnds.stp 8 (pc' := 31) (l' := [some (.ref 10), some (.int x1), some (.int (x2 ||| ((nI 1) <<< (x3 &&& 31)))), some (.int (x3 + (nI 1))), some (.ref 53)]) (st' := []) (fun _ => rfl) ?_
        refine mEnds.cut (l := [some (.ref 10), some (.int x1), some (.int (x2 ||| ((nI 1) <<< (x3 &&& 31)))), some (.int (x3 + (nI 1))), none]) ⟨rfl, ⟨rfl, ⟨rfl, ⟨rfl, trivial⟩⟩⟩⟩ ?_
        exact ok_C_kinds_31 fu (x2 ||| ((nI 1) <<< (x3 &&& 31))) (x3 + (nI 1)) v2.2 _ hf
def C_kinds (x1 : Int32) (s : sg) : Option (Int32 × sg) :=
  (H_hasRoom 11 x1 s).bind fun v1 =>
  if v1 = 0 then
    some ((-1), s)
  else
    (H_hasTongue 11 x1 s).bind fun v2 =>
    if v2 = 0 then
      some ((-2), s)
    else
      C_kinds_31 x1 FU (nI 0) (nI 0) s
set_option maxRecDepth 100000 in
theorem ok_C_kinds {x1 : Int32} {s : sg} {rv : (Int32 × sg)} (hf : C_kinds x1 s = some rv) : mEnds [] 5 91 (0, [some (.ref 10), some (.int x1), none, none, none], [], hp shC s, 0, 0) (some (.int rv.1), hp shC rv.2, 0, 0) := by
  unfold C_kinds at hf
  refine mEnds.stp 1 (pc' := 1) (l' := [some (.ref 10), some (.int x1), none, none, none]) (st' := [.ref 10]) (fun _ => rfl) ?_
  refine t_gr (rfl : mfetch 91 1 = some (1, .getfield 10, 3, 4, 0, 0)) rfl rfl ?_
  refine mEnds.stp 1 (pc' := 5) (l' := [some (.ref 10), some (.int x1), none, none, none]) (st' := [.int x1, .ref 11]) (fun _ => rfl) ?_
  obtain ⟨v1, hv1, hf⟩ := ob hf
  refine t_cv (as := [.int x1]) (st := []) (rfl : mfetch 91 5 = some (5, .invokevirtual 105, 3, 8, 0, 0)) rfl rfl rfl rfl rfl ((ok_H_hasRoom isH_11 hv1).deep 4) ?_
  by_cases hc1 : v1 = 0
  · rw [if_pos hc1] at hf
    refine t_jF (rfl : mfetch 91 8 = some (8, .ifCond .ne 5, 3, 0, 0, 0)) (k_ne' hc1) ?_
    refine mEnds.stp 1 (pc' := 12) (l' := [some (.ref 10), some (.int x1), none, none, none]) (st' := [.int (-1)]) (fun _ => rfl) ?_
    exact mEnds.rti (Option.some.inj hf) (fun _ => rfl)
  · rw [if_neg hc1] at hf
    refine t_jT (t := 13) (rfl : mfetch 91 8 = some (8, .ifCond .ne 5, 3, 0, 0, 0)) rfl (k_ne hc1) ?_
    refine mEnds.stp 1 (pc' := 14) (l' := [some (.ref 10), some (.int x1), none, none, none]) (st' := [.ref 10]) (fun _ => rfl) ?_
    refine t_gr (rfl : mfetch 91 14 = some (14, .getfield 10, 3, 4, 0, 0)) rfl rfl ?_
    refine mEnds.stp 1 (pc' := 18) (l' := [some (.ref 10), some (.int x1), none, none, none]) (st' := [.int x1, .ref 11]) (fun _ => rfl) ?_
    obtain ⟨v2, hv2, hf⟩ := ob hf
    refine t_cv (as := [.int x1]) (st := []) (rfl : mfetch 91 18 = some (18, .invokevirtual 121, 3, 10, 0, 0)) rfl rfl rfl rfl rfl ((ok_H_hasTongue isH_11 hv2).deep 4) ?_
    by_cases hc2 : v2 = 0
    · rw [if_pos hc2] at hf
      refine t_jF (rfl : mfetch 91 21 = some (21, .ifCond .ne 6, 3, 0, 0, 0)) (k_ne' hc2) ?_
      refine mEnds.stp 1 (pc' := 26) (l' := [some (.ref 10), some (.int x1), none, none, none]) (st' := [.int (-2)]) (fun _ => rfl) ?_
      exact mEnds.rti (Option.some.inj hf) (fun _ => rfl)
    · rw [if_neg hc2] at hf
      refine t_jT (t := 27) (rfl : mfetch 91 21 = some (21, .ifCond .ne 6, 3, 0, 0, 0)) rfl (k_ne hc2) ?_
      refine mEnds.stp 4 (pc' := 31) (l' := [some (.ref 10), some (.int x1), some (.int (nI 0)), some (.int (nI 0)), none]) (st' := []) (fun _ => rfl) ?_
      refine mEnds.cut (l := [some (.ref 10), some (.int x1), some (.int (nI 0)), some (.int (nI 0)), none]) ⟨rfl, ⟨rfl, ⟨rfl, ⟨rfl, trivial⟩⟩⟩⟩ ?_
      exact ok_C_kinds_31 FU (nI 0) (nI 0) s _ hf
def C_leaksAsFelt_4 (x1 : Int32) : Nat → Int32 → Int32 → sg → Option (Int32 × sg)
  | 0, _, _, _ => none
  | fu + 1, x2, x3, s =>
  if nI 9 < x3 then
    some (x2, s)
  else
    (C_copyOfNow s).bind fun s1 =>
    (midx x1 5).bind fun j1 =>
    (some (up s1 59 j1 x3)).bind fun s2 =>
    (F_holdIn 53 s2).bind fun v2 =>
    if v2.1 = 0 then
      C_leaksAsFelt_4 x1 fu x2 (x3 + (nI 1)) v2.2
    else
      C_leaksAsFelt_4 x1 fu (x2 ||| ((nI 1) <<< (x3 &&& 31))) (x3 + (nI 1)) v2.2
set_option maxRecDepth 100000 in
theorem ok_C_leaksAsFelt_4 {x1 : Int32} : ∀ (fu : Nat) (x2 : Int32) (x3 : Int32) (s : sg) (rv : (Int32 × sg)), C_leaksAsFelt_4 x1 fu x2 x3 s = some rv → mEnds [] 5 93 (4, [some (.ref 10), some (.int x1), some (.int x2), some (.int x3), none], [], hp shC s, 0, 0) (some (.int rv.1), hp shC rv.2, 0, 0)
  | 0, _, _, _, _, hf => by cases hf
  | fu + 1, x2, x3, s, rv, hf => by
    rw [C_leaksAsFelt_4] at hf
    refine mEnds.stp 2 (pc' := 7) (l' := [some (.ref 10), some (.int x1), some (.int x2), some (.int x3), none]) (st' := [.int (nI 9), .int x3]) (fun _ => rfl) ?_
    by_cases hc1 : nI 9 < x3
    · rw [if_pos hc1] at hf
      refine t_cT (t := 48) (rfl : mfetch 93 7 = some (7, .if_icmp .gt 41, 3, 0, 0, 0)) rfl (k_gt hc1) ?_
      refine mEnds.stp 1 (pc' := 49) (l' := [some (.ref 10), some (.int x1), some (.int x2), some (.int x3), none]) (st' := [.int x2]) (fun _ => rfl) ?_
      exact mEnds.rti (Option.some.inj hf) (fun _ => rfl)
    · rw [if_neg hc1] at hf
      refine t_cF (rfl : mfetch 93 7 = some (7, .if_icmp .gt 41, 3, 0, 0, 0)) (k_gt' hc1) ?_
      refine mEnds.stp 1 (pc' := 11) (l' := [some (.ref 10), some (.int x1), some (.int x2), some (.int x3), none]) (st' := [.ref 10]) (fun _ => rfl) ?_
      obtain ⟨s1, hs1, hf⟩ := ob hf
      refine t_cv (as := []) (st := []) (rfl : mfetch 93 11 = some (11, .invokevirtual 167, 3, 109, 0, 0)) rfl rfl rfl rfl rfl ((ok_C_copyOfNow hs1).deep 3) ?_
      refine mEnds.stp 2 (pc' := 18) (l' := [some (.ref 10), some (.int x1), some (.int x2), some (.int x3), some (.ref 53)]) (st' := [.ref 53]) (fun _ => rfl) ?_
      refine t_gr (rfl : mfetch 93 18 = some (18, .getfield 144, 3, 1, 10, 0)) rfl rfl ?_
      refine mEnds.stp 2 (pc' := 23) (l' := [some (.ref 10), some (.int x1), some (.int x2), some (.int x3), some (.ref 53)]) (st' := [.int x3, .int x1, .ref 59]) (fun _ => rfl) ?_
      obtain ⟨j1, hj1, hf⟩ := ob hf
      obtain ⟨s2, hs2, hf⟩ := ob hf
      refine t_is (rfl : mfetch 93 23 = some (23, .iastore, 1, 0, 0, 0)) rfl rfl hj1 hs2 ?_
      refine mEnds.stp 1 (pc' := 25) (l' := [some (.ref 10), some (.int x1), some (.int x2), some (.int x3), some (.ref 53)]) (st' := [.ref 10]) (fun _ => rfl) ?_
      refine t_gr (rfl : mfetch 93 25 = some (25, .getfield 36, 3, 4, 5, 0)) rfl rfl ?_
      refine mEnds.stp 1 (pc' := 30) (l' := [some (.ref 10), some (.int x1), some (.int x2), some (.int x3), some (.ref 53)]) (st' := [.ref 53, .ref 23]) (fun _ => rfl) ?_
      obtain ⟨v2, hv2, hf⟩ := ob hf
      refine t_cv (as := [.ref 53]) (st := []) (rfl : mfetch 93 30 = some (30, .invokevirtual 236, 3, 2, 0, 0)) rfl rfl rfl rfl rfl (ok_F_holdIn isH_53 hv2) ?_
      by_cases hc2 : v2.1 = 0
      · rw [if_pos hc2] at hf
        refine t_jT (t := 42) (rfl : mfetch 93 33 = some (33, .ifCond .eq 9, 3, 0, 0, 0)) rfl (k_eq hc2) ?_
        refine mEnds.stp 2 (pc' := 4) (l' := [some (.ref 10), some (.int x1), some (.int x2), some (.int (x3 + (nI 1))), some (.ref 53)]) (st' := []) (fun _ => rfl) ?_
        refine mEnds.cut (l := [some (.ref 10), some (.int x1), some (.int x2), some (.int (x3 + (nI 1))), none]) ⟨rfl, ⟨rfl, ⟨rfl, ⟨rfl, trivial⟩⟩⟩⟩ ?_
        exact ok_C_leaksAsFelt_4 fu x2 (x3 + (nI 1)) v2.2 _ hf
      · rw [if_neg hc2] at hf
        refine t_jF (rfl : mfetch 93 33 = some (33, .ifCond .eq 9, 3, 0, 0, 0)) (k_eq' hc2) ?_
        refine mEnds.stp 8 (pc' := 4) (l' := [some (.ref 10), some (.int x1), some (.int (x2 ||| ((nI 1) <<< (x3 &&& 31)))), some (.int (x3 + (nI 1))), some (.ref 53)]) (st' := []) (fun _ => rfl) ?_
        refine mEnds.cut (l := [some (.ref 10), some (.int x1), some (.int (x2 ||| ((nI 1) <<< (x3 &&& 31)))), some (.int (x3 + (nI 1))), none]) ⟨rfl, ⟨rfl, ⟨rfl, ⟨rfl, trivial⟩⟩⟩⟩ ?_
        exact ok_C_leaksAsFelt_4 fu (x2 ||| ((nI 1) <<< (x3 &&& 31))) (x3 + (nI 1)) v2.2 _ hf
def C_leaksAsFelt (x1 : Int32) (s : sg) : Option (Int32 × sg) :=
  C_leaksAsFelt_4 x1 FU (nI 0) (nI 0) s
set_option maxRecDepth 100000 in
theorem ok_C_leaksAsFelt {x1 : Int32} {s : sg} {rv : (Int32 × sg)} (hf : C_leaksAsFelt x1 s = some rv) : mEnds [] 5 93 (0, [some (.ref 10), some (.int x1), none, none, none], [], hp shC s, 0, 0) (some (.int rv.1), hp shC rv.2, 0, 0) := by
  unfold C_leaksAsFelt at hf
  refine mEnds.stp 4 (pc' := 4) (l' := [some (.ref 10), some (.int x1), some (.int (nI 0)), some (.int (nI 0)), none]) (st' := []) (fun _ => rfl) ?_
  refine mEnds.cut (l := [some (.ref 10), some (.int x1), some (.int (nI 0)), some (.int (nI 0)), none]) ⟨rfl, ⟨rfl, ⟨rfl, ⟨rfl, trivial⟩⟩⟩⟩ ?_
  exact ok_C_leaksAsFelt_4 FU (nI 0) (nI 0) s _ hf
def C_lets (x1 : Int32) (s : sg) : Option (Int32 × sg) :=
  (H_hasWall 11 x1 s).bind fun v1 =>
  if v1 = 0 then
    some ((-1), s)
  else
    (C_leaksAsFelt x1 s).bind fun v2 =>
    some (v2.1, v2.2)
set_option maxRecDepth 100000 in
theorem ok_C_lets {x1 : Int32} {s : sg} {rv : (Int32 × sg)} (hf : C_lets x1 s = some rv) : mEnds [] 6 92 (0, [some (.ref 10), some (.int x1)], [], hp shC s, 0, 0) (some (.int rv.1), hp shC rv.2, 0, 0) := by
  unfold C_lets at hf
  refine mEnds.stp 1 (pc' := 1) (l' := [some (.ref 10), some (.int x1)]) (st' := [.ref 10]) (fun _ => rfl) ?_
  refine t_gr (rfl : mfetch 92 1 = some (1, .getfield 10, 3, 4, 0, 0)) rfl rfl ?_
  refine mEnds.stp 1 (pc' := 5) (l' := [some (.ref 10), some (.int x1)]) (st' := [.int x1, .ref 11]) (fun _ => rfl) ?_
  obtain ⟨v1, hv1, hf⟩ := ob hf
  refine t_cv (as := [.int x1]) (st := []) (rfl : mfetch 92 5 = some (5, .invokevirtual 141, 3, 9, 0, 0)) rfl rfl rfl rfl rfl ((ok_H_hasWall isH_11 hv1).deep 5) ?_
  by_cases hc1 : v1 = 0
  · rw [if_pos hc1] at hf
    refine t_jT (t := 19) (rfl : mfetch 92 8 = some (8, .ifCond .eq 11, 3, 0, 0, 0)) rfl (k_eq hc1) ?_
    refine mEnds.stp 1 (pc' := 20) (l' := [some (.ref 10), some (.int x1)]) (st' := [.int (-1)]) (fun _ => rfl) ?_
    exact mEnds.rti (Option.some.inj hf) (fun _ => rfl)
  · rw [if_neg hc1] at hf
    refine t_jF (rfl : mfetch 92 8 = some (8, .ifCond .eq 11, 3, 0, 0, 0)) (k_eq' hc1) ?_
    refine mEnds.stp 2 (pc' := 13) (l' := [some (.ref 10), some (.int x1)]) (st' := [.int x1, .ref 10]) (fun _ => rfl) ?_
    obtain ⟨v2, hv2, hf⟩ := ob hf
    refine t_cv (as := [.int x1]) (st := []) (rfl : mfetch 92 13 = some (13, .invokevirtual 239, 3, 93, 0, 0)) rfl rfl rfl rfl rfl (ok_C_leaksAsFelt hv2) ?_
    refine mEnds.stp 1 (pc' := 20) (l' := [some (.ref 10), some (.int x1)]) (st' := [.int v2.1]) (fun _ => rfl) ?_
    exact mEnds.rti (Option.some.inj hf) (fun _ => rfl)
def C_layOutTrials_5 (x1 : Int32) (x2 : Int32) : Nat → Int32 → Int32 → sg → Option (Int32 × sg)
  | 0, _, _, _ => none
  | fu + 1, x3, x4, s =>
  if nI 9 < x4 then
    some (x3, s)
  else
    if x3 < nI 10 then
      if (x2 >>> (x4 &&& 31)) &&& (nI 1) = nI 1 then
        (midx x3 10).bind fun j1 =>
        (H_copyFrom (53 + 8 * j1) 11 s).bind fun s1 =>
        (midx x3 10).bind fun j2 =>
        (midx x1 5).bind fun j3 =>
        (some (up s1 ((53 + 8 * j2) + 6) j3 x4)).bind fun s2 =>
        C_layOutTrials_5 x1 x2 fu (x3 + (nI 1)) (x4 + (nI 1)) s2
      else
        C_layOutTrials_5 x1 x2 fu x3 (x4 + (nI 1)) s
    else
      some (x3, s)
set_option maxRecDepth 100000 in
theorem ok_C_layOutTrials_5 {x1 : Int32} {x2 : Int32} : ∀ (fu : Nat) (x3 : Int32) (x4 : Int32) (s : sg) (rv : (Int32 × sg)), C_layOutTrials_5 x1 x2 fu x3 x4 s = some rv → mEnds [] 1 95 (5, [some (.ref 10), some (.int x1), some (.int x2), some (.int x3), some (.int x4)], [], hp shC s, 0, 0) (some (.int rv.1), hp shC rv.2, 0, 0)
  | 0, _, _, _, _, hf => by cases hf
  | fu + 1, x3, x4, s, rv, hf => by
    rw [C_layOutTrials_5] at hf
    refine mEnds.stp 2 (pc' := 9) (l' := [some (.ref 10), some (.int x1), some (.int x2), some (.int x3), some (.int x4)]) (st' := [.int (nI 9), .int x4]) (fun _ => rfl) ?_
    by_cases hc1 : nI 9 < x4
    · rw [if_pos hc1] at hf
      refine t_cT (t := 63) (rfl : mfetch 95 9 = some (9, .if_icmp .gt 54, 3, 0, 0, 0)) rfl (k_gt hc1) ?_
      refine mEnds.stp 1 (pc' := 64) (l' := [some (.ref 10), some (.int x1), some (.int x2), some (.int x3), some (.int x4)]) (st' := [.int x3]) (fun _ => rfl) ?_
      exact mEnds.rti (Option.some.inj hf) (fun _ => rfl)
    · rw [if_neg hc1] at hf
      refine t_cF (rfl : mfetch 95 9 = some (9, .if_icmp .gt 54, 3, 0, 0, 0)) (k_gt' hc1) ?_
      refine mEnds.stp 2 (pc' := 15) (l' := [some (.ref 10), some (.int x1), some (.int x2), some (.int x3), some (.int x4)]) (st' := [.int (nI 10), .int x3]) (fun _ => rfl) ?_
      by_cases hc2 : x3 < nI 10
      · rw [if_pos hc2] at hf
        refine t_cF (rfl : mfetch 95 15 = some (15, .if_icmp .ge 48, 3, 0, 0, 0)) (k_ge' hc2) ?_
        refine mEnds.stp 6 (pc' := 25) (l' := [some (.ref 10), some (.int x1), some (.int x2), some (.int x3), some (.int x4)]) (st' := [.int (nI 1), .int ((x2 >>> (x4 &&& 31)) &&& (nI 1))]) (fun _ => rfl) ?_
        by_cases hc3 : (x2 >>> (x4 &&& 31)) &&& (nI 1) = nI 1
        · rw [if_pos hc3] at hf
          refine t_cF (rfl : mfetch 95 25 = some (25, .if_icmp .ne 32, 3, 0, 0, 0)) (k_ne' hc3) ?_
          refine mEnds.stp 1 (pc' := 29) (l' := [some (.ref 10), some (.int x1), some (.int x2), some (.int x3), some (.int x4)]) (st' := [.ref 10]) (fun _ => rfl) ?_
          refine t_gr (rfl : mfetch 95 29 = some (29, .getfield 24, 3, 4, 3, 0)) rfl rfl ?_
          refine mEnds.stp 1 (pc' := 33) (l' := [some (.ref 10), some (.int x1), some (.int x2), some (.int x3), some (.int x4)]) (st' := [.int x3, .ref 21]) (fun _ => rfl) ?_
          obtain ⟨j1, hj1, hf⟩ := ob hf
          refine t_aa (rfl : mfetch 95 33 = some (33, .aaload, 1, 0, 0, 0)) rfl rfl rfl hj1 (el_tr (mi_lt hj1)) ?_
          refine mEnds.stp 1 (pc' := 35) (l' := [some (.ref 10), some (.int x1), some (.int x2), some (.int x3), some (.int x4)]) (st' := [.ref 10, .ref (53 + 8 * j1)]) (fun _ => rfl) ?_
          refine t_gr (rfl : mfetch 95 35 = some (35, .getfield 10, 3, 4, 0, 0)) rfl rfl ?_
          obtain ⟨s1, hs1, hf⟩ := ob hf
          refine t_cv (as := [.ref 11]) (st := []) (rfl : mfetch 95 38 = some (38, .invokevirtual 70, 3, 7, 0, 0)) (isH_tr (mi_lt hj1)).1 rfl rfl rfl rfl (ok_H_copyFrom (isH_tr (mi_lt hj1)) isH_11 hs1) ?_
          refine mEnds.stp 1 (pc' := 42) (l' := [some (.ref 10), some (.int x1), some (.int x2), some (.int x3), some (.int x4)]) (st' := [.ref 10]) (fun _ => rfl) ?_
          refine t_gr (rfl : mfetch 95 42 = some (42, .getfield 24, 3, 4, 3, 0)) rfl rfl ?_
          refine mEnds.stp 1 (pc' := 46) (l' := [some (.ref 10), some (.int x1), some (.int x2), some (.int x3), some (.int x4)]) (st' := [.int x3, .ref 21]) (fun _ => rfl) ?_
          obtain ⟨j2, hj2, hf⟩ := ob hf
          refine t_aa (rfl : mfetch 95 46 = some (46, .aaload, 1, 0, 0, 0)) rfl rfl rfl hj2 (el_tr (mi_lt hj2)) ?_
          refine t_gr (rfl : mfetch 95 47 = some (47, .getfield 144, 3, 1, 10, 0)) (isH_tr (mi_lt hj2)).1 rfl ?_
          refine mEnds.stp 2 (pc' := 53) (l' := [some (.ref 10), some (.int x1), some (.int x2), some (.int x3), some (.int x4)]) (st' := [.int x4, .int x1, .ref ((53 + 8 * j2) + 6)]) (fun _ => rfl) ?_
          obtain ⟨j3, hj3, hf⟩ := ob hf
          obtain ⟨s2, hs2, hf⟩ := ob hf
          refine t_is (rfl : mfetch 95 53 = some (53, .iastore, 1, 0, 0, 0)) (isH_tr (mi_lt hj2)).2.2.2.2.2.2.1 (isH_le (isH_tr (mi_lt hj2)) 6) hj3 hs2 ?_
          refine mEnds.stp 3 (pc' := 5) (l' := [some (.ref 10), some (.int x1), some (.int x2), some (.int (x3 + (nI 1))), some (.int (x4 + (nI 1)))]) (st' := []) (fun _ => rfl) ?_
          refine mEnds.cut (l := [some (.ref 10), some (.int x1), some (.int x2), some (.int (x3 + (nI 1))), some (.int (x4 + (nI 1)))]) ⟨rfl, ⟨rfl, ⟨rfl, ⟨rfl, ⟨rfl, trivial⟩⟩⟩⟩⟩ ?_
          exact ok_C_layOutTrials_5 fu (x3 + (nI 1)) (x4 + (nI 1)) s2 _ hf
        · rw [if_neg hc3] at hf
          refine t_cT (t := 57) (rfl : mfetch 95 25 = some (25, .if_icmp .ne 32, 3, 0, 0, 0)) rfl (k_ne hc3) ?_
          refine mEnds.stp 2 (pc' := 5) (l' := [some (.ref 10), some (.int x1), some (.int x2), some (.int x3), some (.int (x4 + (nI 1)))]) (st' := []) (fun _ => rfl) ?_
          refine mEnds.cut (l := [some (.ref 10), some (.int x1), some (.int x2), some (.int x3), some (.int (x4 + (nI 1)))]) ⟨rfl, ⟨rfl, ⟨rfl, ⟨rfl, ⟨rfl, trivial⟩⟩⟩⟩⟩ ?_
          exact ok_C_layOutTrials_5 fu x3 (x4 + (nI 1)) s _ hf
      · rw [if_neg hc2] at hf
        refine t_cT (t := 63) (rfl : mfetch 95 15 = some (15, .if_icmp .ge 48, 3, 0, 0, 0)) rfl (k_ge hc2) ?_
        refine mEnds.stp 1 (pc' := 64) (l' := [some (.ref 10), some (.int x1), some (.int x2), some (.int x3), some (.int x4)]) (st' := [.int x3]) (fun _ => rfl) ?_
        exact mEnds.rti (Option.some.inj hf) (fun _ => rfl)
def C_layOutTrials (x1 : Int32) (x2 : Int32) (s : sg) : Option (Int32 × sg) :=
  C_layOutTrials_5 x1 x2 FU (nI 0) (nI 0) s
set_option maxRecDepth 100000 in
theorem ok_C_layOutTrials {x1 : Int32} {x2 : Int32} {s : sg} {rv : (Int32 × sg)} (hf : C_layOutTrials x1 x2 s = some rv) : mEnds [] 1 95 (0, [some (.ref 10), some (.int x1), some (.int x2), none, none], [], hp shC s, 0, 0) (some (.int rv.1), hp shC rv.2, 0, 0) := by
  unfold C_layOutTrials at hf
  refine mEnds.stp 4 (pc' := 5) (l' := [some (.ref 10), some (.int x1), some (.int x2), some (.int (nI 0)), some (.int (nI 0))]) (st' := []) (fun _ => rfl) ?_
  refine mEnds.cut (l := [some (.ref 10), some (.int x1), some (.int x2), some (.int (nI 0)), some (.int (nI 0))]) ⟨rfl, ⟨rfl, ⟨rfl, ⟨rfl, ⟨rfl, trivial⟩⟩⟩⟩⟩ ?_
  exact ok_C_layOutTrials_5 FU (nI 0) (nI 0) s _ hf
def C_mostAlike_17 (k5 : Int32 → Int32 → Option Int32) (x1 : Int32) (x2 : Int32) (x3 : Int32) (x4 : Int32) (s : sg) : Nat → Int32 → Int32 → Option Int32
  | 0, _, _ => none
  | fu + 1, x5, x6 =>
  if x6 < x1 then
    (midx x4 10).bind fun j1 =>
    (midx x2 6).bind fun j2 =>
    (midx x6 10).bind fun j3 =>
    (midx x2 6).bind fun j4 =>
    if s ((53 + 8 * j1) + 1) j2 = s ((53 + 8 * j3) + 1) j4 then
      C_mostAlike_17 k5 x1 x2 x3 x4 s fu (x5 + (nI 1)) (x6 + (nI 1))
    else
      C_mostAlike_17 k5 x1 x2 x3 x4 s fu x5 (x6 + (nI 1))
  else
    k5 (if x3 < x5 then x5 else x3) (x4 + (nI 1))
set_option maxRecDepth 100000 in
theorem ok_C_mostAlike_17 {k5 : Int32 → Int32 → Option Int32} {x1 : Int32} {x2 : Int32} {x3 : Int32} {x4 : Int32} {s : sg} (hk5 : ∀ (x3 : Int32) (x4 : Int32) (rv : Int32), k5 x3 x4 = some rv → mEnds [] 0 96 (5, [some (.ref 10), some (.int x1), some (.int x2), some (.int x3), some (.int x4), none, none], [], hp shC s, 0, 0) (some (.int rv), hp shC s, 0, 0)) : ∀ (fu : Nat) (x5 : Int32) (x6 : Int32) (rv : Int32), C_mostAlike_17 k5 x1 x2 x3 x4 s fu x5 x6 = some rv → mEnds [] 0 96 (17, [some (.ref 10), some (.int x1), some (.int x2), some (.int x3), some (.int x4), some (.int x5), some (.int x6)], [], hp shC s, 0, 0) (some (.int rv), hp shC s, 0, 0)
  | 0, _, _, _, hf => by cases hf
  | fu + 1, x5, x6, rv, hf => by
    rw [C_mostAlike_17] at hf
    refine mEnds.stp 2 (pc' := 20) (l' := [some (.ref 10), some (.int x1), some (.int x2), some (.int x3), some (.int x4), some (.int x5), some (.int x6)]) (st' := [.int x1, .int x6]) (fun _ => rfl) ?_
    by_cases hc1 : x6 < x1
    · rw [if_pos hc1] at hf
      refine t_cF (rfl : mfetch 96 20 = some (20, .if_icmp .ge 39, 3, 0, 0, 0)) (k_ge' hc1) ?_
      refine mEnds.stp 1 (pc' := 24) (l' := [some (.ref 10), some (.int x1), some (.int x2), some (.int x3), some (.int x4), some (.int x5), some (.int x6)]) (st' := [.ref 10]) (fun _ => rfl) ?_
      refine t_gr (rfl : mfetch 96 24 = some (24, .getfield 24, 3, 4, 3, 0)) rfl rfl ?_
      refine mEnds.stp 1 (pc' := 29) (l' := [some (.ref 10), some (.int x1), some (.int x2), some (.int x3), some (.int x4), some (.int x5), some (.int x6)]) (st' := [.int x4, .ref 21]) (fun _ => rfl) ?_
      obtain ⟨j1, hj1, hf⟩ := ob hf
      refine t_aa (rfl : mfetch 96 29 = some (29, .aaload, 1, 0, 0, 0)) rfl rfl rfl hj1 (el_tr (mi_lt hj1)) ?_
      refine t_gr (rfl : mfetch 96 30 = some (30, .getfield 108, 3, 1, 5, 0)) (isH_tr (mi_lt hj1)).1 rfl ?_
      refine mEnds.stp 1 (pc' := 34) (l' := [some (.ref 10), some (.int x1), some (.int x2), some (.int x3), some (.int x4), some (.int x5), some (.int x6)]) (st' := [.int x2, .ref ((53 + 8 * j1) + 1)]) (fun _ => rfl) ?_
      obtain ⟨j2, hj2, hf⟩ := ob hf
      refine t_ia (rfl : mfetch 96 34 = some (34, .iaload, 1, 0, 0, 0)) (isH_tr (mi_lt hj1)).2.1 (isH_le (isH_tr (mi_lt hj1)) 1) hj2 ?_
      refine mEnds.stp 1 (pc' := 36) (l' := [some (.ref 10), some (.int x1), some (.int x2), some (.int x3), some (.int x4), some (.int x5), some (.int x6)]) (st' := [.ref 10, .int (s ((53 + 8 * j1) + 1) j2)]) (fun _ => rfl) ?_
      refine t_gr (rfl : mfetch 96 36 = some (36, .getfield 24, 3, 4, 3, 0)) rfl rfl ?_
      refine mEnds.stp 1 (pc' := 41) (l' := [some (.ref 10), some (.int x1), some (.int x2), some (.int x3), some (.int x4), some (.int x5), some (.int x6)]) (st' := [.int x6, .ref 21, .int (s ((53 + 8 * j1) + 1) j2)]) (fun _ => rfl) ?_
      obtain ⟨j3, hj3, hf⟩ := ob hf
      refine t_aa (rfl : mfetch 96 41 = some (41, .aaload, 1, 0, 0, 0)) rfl rfl rfl hj3 (el_tr (mi_lt hj3)) ?_
      refine t_gr (rfl : mfetch 96 42 = some (42, .getfield 108, 3, 1, 5, 0)) (isH_tr (mi_lt hj3)).1 rfl ?_
      refine mEnds.stp 1 (pc' := 46) (l' := [some (.ref 10), some (.int x1), some (.int x2), some (.int x3), some (.int x4), some (.int x5), some (.int x6)]) (st' := [.int x2, .ref ((53 + 8 * j3) + 1), .int (s ((53 + 8 * j1) + 1) j2)]) (fun _ => rfl) ?_
      obtain ⟨j4, hj4, hf⟩ := ob hf
      refine t_ia (rfl : mfetch 96 46 = some (46, .iaload, 1, 0, 0, 0)) (isH_tr (mi_lt hj3)).2.1 (isH_le (isH_tr (mi_lt hj3)) 1) hj4 ?_
      by_cases hc2 : s ((53 + 8 * j1) + 1) j2 = s ((53 + 8 * j3) + 1) j4
      · rw [if_pos hc2] at hf
        refine t_cF (rfl : mfetch 96 47 = some (47, .if_icmp .ne 6, 3, 0, 0, 0)) (k_ne' hc2) ?_
        refine mEnds.stp 3 (pc' := 17) (l' := [some (.ref 10), some (.int x1), some (.int x2), some (.int x3), some (.int x4), some (.int (x5 + (nI 1))), some (.int (x6 + (nI 1)))]) (st' := []) (fun _ => rfl) ?_
        refine mEnds.cut (l := [some (.ref 10), some (.int x1), some (.int x2), some (.int x3), some (.int x4), some (.int (x5 + (nI 1))), some (.int (x6 + (nI 1)))]) ⟨rfl, ⟨rfl, ⟨rfl, ⟨rfl, ⟨rfl, ⟨rfl, ⟨rfl, trivial⟩⟩⟩⟩⟩⟩⟩ ?_
        exact ok_C_mostAlike_17 hk5 fu (x5 + (nI 1)) (x6 + (nI 1)) _ hf
      · rw [if_neg hc2] at hf
        refine t_cT (t := 53) (rfl : mfetch 96 47 = some (47, .if_icmp .ne 6, 3, 0, 0, 0)) rfl (k_ne hc2) ?_
        refine mEnds.stp 2 (pc' := 17) (l' := [some (.ref 10), some (.int x1), some (.int x2), some (.int x3), some (.int x4), some (.int x5), some (.int (x6 + (nI 1)))]) (st' := []) (fun _ => rfl) ?_
        refine mEnds.cut (l := [some (.ref 10), some (.int x1), some (.int x2), some (.int x3), some (.int x4), some (.int x5), some (.int (x6 + (nI 1)))]) ⟨rfl, ⟨rfl, ⟨rfl, ⟨rfl, ⟨rfl, ⟨rfl, ⟨rfl, trivial⟩⟩⟩⟩⟩⟩⟩ ?_
        exact ok_C_mostAlike_17 hk5 fu x5 (x6 + (nI 1)) _ hf
    · rw [if_neg hc1] at hf
      refine t_cT (t := 59) (rfl : mfetch 96 20 = some (20, .if_icmp .ge 39, 3, 0, 0, 0)) rfl (k_ge hc1) ?_
      refine mEnds.stp 6 (pc' := 5) (l' := [some (.ref 10), some (.int x1), some (.int x2), some (.int (if x3 < x5 then x5 else x3)), some (.int (x4 + (nI 1))), some (.int x5), some (.int x6)]) (st' := []) (fun _ => rfl) ?_
      refine mEnds.cut (l := [some (.ref 10), some (.int x1), some (.int x2), some (.int (if x3 < x5 then x5 else x3)), some (.int (x4 + (nI 1))), none, none]) ⟨rfl, ⟨rfl, ⟨rfl, ⟨rfl, ⟨rfl, trivial⟩⟩⟩⟩⟩ ?_
      exact hk5 (if x3 < x5 then x5 else x3) (x4 + (nI 1)) _ hf
def C_mostAlike_5 (x1 : Int32) (x2 : Int32) (s : sg) : Nat → Int32 → Int32 → Option Int32
  | 0, _, _ => none
  | fu + 1, x3, x4 =>
  if x4 < x1 then
    C_mostAlike_17 (C_mostAlike_5 x1 x2 s fu) x1 x2 x3 x4 s FU (nI 0) (nI 0)
  else
    some x3
set_option maxRecDepth 100000 in
theorem ok_C_mostAlike_5 {x1 : Int32} {x2 : Int32} {s : sg} : ∀ (fu : Nat) (x3 : Int32) (x4 : Int32) (rv : Int32), C_mostAlike_5 x1 x2 s fu x3 x4 = some rv → mEnds [] 0 96 (5, [some (.ref 10), some (.int x1), some (.int x2), some (.int x3), some (.int x4), none, none], [], hp shC s, 0, 0) (some (.int rv), hp shC s, 0, 0)
  | 0, _, _, _, hf => by cases hf
  | fu + 1, x3, x4, rv, hf => by
    rw [C_mostAlike_5] at hf
    refine mEnds.stp 2 (pc' := 8) (l' := [some (.ref 10), some (.int x1), some (.int x2), some (.int x3), some (.int x4), none, none]) (st' := [.int x1, .int x4]) (fun _ => rfl) ?_
    by_cases hc1 : x4 < x1
    · rw [if_pos hc1] at hf
      refine t_cF (rfl : mfetch 96 8 = some (8, .if_icmp .ge 64, 3, 0, 0, 0)) (k_ge' hc1) ?_
      refine mEnds.stp 4 (pc' := 17) (l' := [some (.ref 10), some (.int x1), some (.int x2), some (.int x3), some (.int x4), some (.int (nI 0)), some (.int (nI 0))]) (st' := []) (fun _ => rfl) ?_
      refine mEnds.cut (l := [some (.ref 10), some (.int x1), some (.int x2), some (.int x3), some (.int x4), some (.int (nI 0)), some (.int (nI 0))]) ⟨rfl, ⟨rfl, ⟨rfl, ⟨rfl, ⟨rfl, ⟨rfl, ⟨rfl, trivial⟩⟩⟩⟩⟩⟩⟩ ?_
      exact ok_C_mostAlike_17 (ok_C_mostAlike_5 fu) FU (nI 0) (nI 0) _ hf
    · rw [if_neg hc1] at hf
      refine t_cT (t := 72) (rfl : mfetch 96 8 = some (8, .if_icmp .ge 64, 3, 0, 0, 0)) rfl (k_ge hc1) ?_
      refine mEnds.stp 1 (pc' := 73) (l' := [some (.ref 10), some (.int x1), some (.int x2), some (.int x3), some (.int x4), none, none]) (st' := [.int x3]) (fun _ => rfl) ?_
      cases hf; exact mEnds.rt (fun _ => rfl)
def C_mostAlike (x1 : Int32) (x2 : Int32) (s : sg) : Option Int32 :=
  C_mostAlike_5 x1 x2 s FU (nI 0) (nI 0)
set_option maxRecDepth 100000 in
theorem ok_C_mostAlike {x1 : Int32} {x2 : Int32} {s : sg} {rv : Int32} (hf : C_mostAlike x1 x2 s = some rv) : mEnds [] 0 96 (0, [some (.ref 10), some (.int x1), some (.int x2), none, none, none, none], [], hp shC s, 0, 0) (some (.int rv), hp shC s, 0, 0) := by
  unfold C_mostAlike at hf
  refine mEnds.stp 4 (pc' := 5) (l' := [some (.ref 10), some (.int x1), some (.int x2), some (.int (nI 0)), some (.int (nI 0)), none, none]) (st' := []) (fun _ => rfl) ?_
  refine mEnds.cut (l := [some (.ref 10), some (.int x1), some (.int x2), some (.int (nI 0)), some (.int (nI 0)), none, none]) ⟨rfl, ⟨rfl, ⟨rfl, ⟨rfl, ⟨rfl, trivial⟩⟩⟩⟩⟩ ?_
  exact ok_C_mostAlike_5 FU (nI 0) (nI 0) _ hf
def C_ask_104 (k43 : Int32 → Int32 → Int32 → sg → Option (Int32 × sg)) (x2 : Int32) (x3 : Int32) (x4 : Int32) (x5 : Int32) (x6 : Int32) : Nat → Int32 → sg → Option (Int32 × sg)
  | 0, _, _ => none
  | fu + 1, x7, s =>
  if x7 < x3 then
    (midx x7 10).bind fun j1 =>
    (H_passHour (53 + 8 * j1) s).bind fun s1 =>
    C_ask_104 k43 x2 x3 x4 x5 x6 fu (x7 + (nI 1)) s1
  else
    k43 x4 x5 (x6 + (nI 1)) s
set_option maxRecDepth 100000 in
theorem ok_C_ask_104 {k43 : Int32 → Int32 → Int32 → sg → Option (Int32 × sg)} {x2 : Int32} {x3 : Int32} {x4 : Int32} {x5 : Int32} {x6 : Int32} (hk43 : ∀ (x4 : Int32) (x5 : Int32) (x6 : Int32) (s : sg) (rv : (Int32 × sg)), k43 x4 x5 x6 s = some rv → mEnds [] 6 94 (43, [some (.ref 10), none, some (.int x2), some (.int x3), some (.int x4), some (.int x5), some (.int x6), none, none], [], hp shC s, 0, 0) (some (.int rv.1), hp shC rv.2, 0, 0)) : ∀ (fu : Nat) (x7 : Int32) (s : sg) (rv : (Int32 × sg)), C_ask_104 k43 x2 x3 x4 x5 x6 fu x7 s = some rv → mEnds [] 6 94 (104, [some (.ref 10), none, some (.int x2), some (.int x3), some (.int x4), some (.int x5), some (.int x6), some (.int x7), none], [], hp shC s, 0, 0) (some (.int rv.1), hp shC rv.2, 0, 0)
  | 0, _, _, _, hf => by cases hf
  | fu + 1, x7, s, rv, hf => by
    rw [C_ask_104] at hf
    refine mEnds.stp 2 (pc' := 107) (l' := [some (.ref 10), none, some (.int x2), some (.int x3), some (.int x4), some (.int x5), some (.int x6), some (.int x7), none]) (st' := [.int x3, .int x7]) (fun _ => rfl) ?_
    by_cases hc1 : x7 < x3
    · rw [if_pos hc1] at hf
      refine t_cF (rfl : mfetch 94 107 = some (107, .if_icmp .ge 19, 3, 0, 0, 0)) (k_ge' hc1) ?_
      refine mEnds.stp 1 (pc' := 111) (l' := [some (.ref 10), none, some (.int x2), some (.int x3), some (.int x4), some (.int x5), some (.int x6), some (.int x7), none]) (st' := [.ref 10]) (fun _ => rfl) ?_
      refine t_gr (rfl : mfetch 94 111 = some (111, .getfield 24, 3, 4, 3, 0)) rfl rfl ?_
      refine mEnds.stp 1 (pc' := 116) (l' := [some (.ref 10), none, some (.int x2), some (.int x3), some (.int x4), some (.int x5), some (.int x6), some (.int x7), none]) (st' := [.int x7, .ref 21]) (fun _ => rfl) ?_
      obtain ⟨j1, hj1, hf⟩ := ob hf
      refine t_aa (rfl : mfetch 94 116 = some (116, .aaload, 1, 0, 0, 0)) rfl rfl rfl hj1 (el_tr (mi_lt hj1)) ?_
      obtain ⟨s1, hs1, hf⟩ := ob hf
      refine t_cv (as := []) (st := []) (rfl : mfetch 94 117 = some (117, .invokevirtual 174, 3, 23, 0, 0)) (isH_tr (mi_lt hj1)).1 rfl rfl rfl rfl ((ok_H_passHour (isH_tr (mi_lt hj1)) hs1).deep 2) ?_
      refine mEnds.stp 2 (pc' := 104) (l' := [some (.ref 10), none, some (.int x2), some (.int x3), some (.int x4), some (.int x5), some (.int x6), some (.int (x7 + (nI 1))), none]) (st' := []) (fun _ => rfl) ?_
      refine mEnds.cut (l := [some (.ref 10), none, some (.int x2), some (.int x3), some (.int x4), some (.int x5), some (.int x6), some (.int (x7 + (nI 1))), none]) ⟨rfl, ⟨rfl, ⟨rfl, ⟨rfl, ⟨rfl, ⟨rfl, ⟨rfl, trivial⟩⟩⟩⟩⟩⟩⟩ ?_
      exact ok_C_ask_104 hk43 fu (x7 + (nI 1)) s1 _ hf
    · rw [if_neg hc1] at hf
      refine t_cT (t := 126) (rfl : mfetch 94 107 = some (107, .if_icmp .ge 19, 3, 0, 0, 0)) rfl (k_ge hc1) ?_
      refine mEnds.stp 2 (pc' := 43) (l' := [some (.ref 10), none, some (.int x2), some (.int x3), some (.int x4), some (.int x5), some (.int (x6 + (nI 1))), some (.int x7), none]) (st' := []) (fun _ => rfl) ?_
      refine mEnds.cut (l := [some (.ref 10), none, some (.int x2), some (.int x3), some (.int x4), some (.int x5), some (.int (x6 + (nI 1))), none, none]) ⟨rfl, ⟨rfl, ⟨rfl, ⟨rfl, ⟨rfl, ⟨rfl, trivial⟩⟩⟩⟩⟩⟩ ?_
      exact hk43 x4 x5 (x6 + (nI 1)) s _ hf
def C_ask_53 (k43 : Int32 → Int32 → Int32 → sg → Option (Int32 × sg)) (x2 : Int32) (x3 : Int32) (x6 : Int32) : Nat → Int32 → Int32 → Int32 → sg → Option (Int32 × sg)
  | 0, _, _, _, _ => none
  | fu + 1, x4, x5, x7, s =>
  if x7 < s 11 0 then
    (C_mostAlike x3 x7 s).bind fun v1 =>
    if v1 < x5 then
      C_ask_53 k43 x2 x3 x6 fu (((nI 10) * x6) + x7) v1 (x7 + (nI 1)) s
    else
      C_ask_53 k43 x2 x3 x6 fu x4 x5 (x7 + (nI 1)) s
  else
    C_ask_104 k43 x2 x3 x4 x5 x6 FU (nI 0) s
set_option maxRecDepth 100000 in
theorem ok_C_ask_53 {k43 : Int32 → Int32 → Int32 → sg → Option (Int32 × sg)} {x2 : Int32} {x3 : Int32} {x6 : Int32} (hk43 : ∀ (x4 : Int32) (x5 : Int32) (x6 : Int32) (s : sg) (rv : (Int32 × sg)), k43 x4 x5 x6 s = some rv → mEnds [] 6 94 (43, [some (.ref 10), none, some (.int x2), some (.int x3), some (.int x4), some (.int x5), some (.int x6), none, none], [], hp shC s, 0, 0) (some (.int rv.1), hp shC rv.2, 0, 0)) : ∀ (fu : Nat) (x4 : Int32) (x5 : Int32) (x7 : Int32) (s : sg) (rv : (Int32 × sg)), C_ask_53 k43 x2 x3 x6 fu x4 x5 x7 s = some rv → mEnds [] 6 94 (53, [some (.ref 10), none, some (.int x2), some (.int x3), some (.int x4), some (.int x5), some (.int x6), some (.int x7), none], [], hp shC s, 0, 0) (some (.int rv.1), hp shC rv.2, 0, 0)
  | 0, _, _, _, _, _, hf => by cases hf
  | fu + 1, x4, x5, x7, s, rv, hf => by
    rw [C_ask_53] at hf
    refine mEnds.stp 2 (pc' := 56) (l' := [some (.ref 10), none, some (.int x2), some (.int x3), some (.int x4), some (.int x5), some (.int x6), some (.int x7), none]) (st' := [.ref 10, .int x7]) (fun _ => rfl) ?_
    refine t_gr (rfl : mfetch 94 56 = some (56, .getfield 10, 3, 4, 0, 0)) rfl rfl ?_
    refine t_gi (rfl : mfetch 94 59 = some (59, .getfield 83, 3, 1, 0, 0)) rfl rfl ?_
    by_cases hc1 : x7 < s 11 0
    · rw [if_pos hc1] at hf
      refine t_cF (rfl : mfetch 94 62 = some (62, .if_icmp .ge 39, 3, 0, 0, 0)) (k_ge' hc1) ?_
      refine mEnds.stp 3 (pc' := 69) (l' := [some (.ref 10), none, some (.int x2), some (.int x3), some (.int x4), some (.int x5), some (.int x6), some (.int x7), none]) (st' := [.int x7, .int x3, .ref 10]) (fun _ => rfl) ?_
      obtain ⟨v1, hv1, hf⟩ := ob hf
      refine t_cv (as := [.int x3, .int x7]) (st := []) (rfl : mfetch 94 69 = some (69, .invokevirtual 245, 3, 96, 0, 0)) rfl rfl rfl rfl rfl ((ok_C_mostAlike hv1).deep 5) ?_
      refine mEnds.stp 3 (pc' := 78) (l' := [some (.ref 10), none, some (.int x2), some (.int x3), some (.int x4), some (.int x5), some (.int x6), some (.int x7), some (.int v1)]) (st' := [.int x5, .int v1]) (fun _ => rfl) ?_
      by_cases hc2 : v1 < x5
      · rw [if_pos hc2] at hf
        refine t_cF (rfl : mfetch 94 78 = some (78, .if_icmp .ge 17, 3, 0, 0, 0)) (k_ge' hc2) ?_
        refine mEnds.stp 10 (pc' := 53) (l' := [some (.ref 10), none, some (.int x2), some (.int x3), some (.int (((nI 10) * x6) + x7)), some (.int v1), some (.int x6), some (.int (x7 + (nI 1))), some (.int v1)]) (st' := []) (fun _ => rfl) ?_
        refine mEnds.cut (l := [some (.ref 10), none, some (.int x2), some (.int x3), some (.int (((nI 10) * x6) + x7)), some (.int v1), some (.int x6), some (.int (x7 + (nI 1))), none]) ⟨rfl, ⟨rfl, ⟨rfl, ⟨rfl, ⟨rfl, ⟨rfl, ⟨rfl, trivial⟩⟩⟩⟩⟩⟩⟩ ?_
        exact ok_C_ask_53 hk43 fu (((nI 10) * x6) + x7) v1 (x7 + (nI 1)) s _ hf
      · rw [if_neg hc2] at hf
        refine t_cT (t := 95) (rfl : mfetch 94 78 = some (78, .if_icmp .ge 17, 3, 0, 0, 0)) rfl (k_ge hc2) ?_
        refine mEnds.stp 2 (pc' := 53) (l' := [some (.ref 10), none, some (.int x2), some (.int x3), some (.int x4), some (.int x5), some (.int x6), some (.int (x7 + (nI 1))), some (.int v1)]) (st' := []) (fun _ => rfl) ?_
        refine mEnds.cut (l := [some (.ref 10), none, some (.int x2), some (.int x3), some (.int x4), some (.int x5), some (.int x6), some (.int (x7 + (nI 1))), none]) ⟨rfl, ⟨rfl, ⟨rfl, ⟨rfl, ⟨rfl, ⟨rfl, ⟨rfl, trivial⟩⟩⟩⟩⟩⟩⟩ ?_
        exact ok_C_ask_53 hk43 fu x4 x5 (x7 + (nI 1)) s _ hf
    · rw [if_neg hc1] at hf
      refine t_cT (t := 101) (rfl : mfetch 94 62 = some (62, .if_icmp .ge 39, 3, 0, 0, 0)) rfl (k_ge hc1) ?_
      refine mEnds.stp 2 (pc' := 104) (l' := [some (.ref 10), none, some (.int x2), some (.int x3), some (.int x4), some (.int x5), some (.int x6), some (.int (nI 0)), none]) (st' := []) (fun _ => rfl) ?_
      refine mEnds.cut (l := [some (.ref 10), none, some (.int x2), some (.int x3), some (.int x4), some (.int x5), some (.int x6), some (.int (nI 0)), none]) ⟨rfl, ⟨rfl, ⟨rfl, ⟨rfl, ⟨rfl, ⟨rfl, ⟨rfl, trivial⟩⟩⟩⟩⟩⟩⟩ ?_
      exact ok_C_ask_104 hk43 FU (nI 0) s _ hf
def C_ask_43 (x2 : Int32) (x3 : Int32) : Nat → Int32 → Int32 → Int32 → sg → Option (Int32 × sg)
  | 0, _, _, _, _ => none
  | fu + 1, x4, x5, x6, s =>
  if nI 20 < x6 then
    (C_chosen x4 x5 x2 s).bind fun v1 =>
    some (v1, s)
  else
    C_ask_53 (C_ask_43 x2 x3 fu) x2 x3 x6 FU x4 x5 (nI 0) s
set_option maxRecDepth 100000 in
theorem ok_C_ask_43 {x2 : Int32} {x3 : Int32} : ∀ (fu : Nat) (x4 : Int32) (x5 : Int32) (x6 : Int32) (s : sg) (rv : (Int32 × sg)), C_ask_43 x2 x3 fu x4 x5 x6 s = some rv → mEnds [] 6 94 (43, [some (.ref 10), none, some (.int x2), some (.int x3), some (.int x4), some (.int x5), some (.int x6), none, none], [], hp shC s, 0, 0) (some (.int rv.1), hp shC rv.2, 0, 0)
  | 0, _, _, _, _, _, hf => by cases hf
  | fu + 1, x4, x5, x6, s, rv, hf => by
    rw [C_ask_43] at hf
    refine mEnds.stp 2 (pc' := 47) (l' := [some (.ref 10), none, some (.int x2), some (.int x3), some (.int x4), some (.int x5), some (.int x6), none, none]) (st' := [.int (nI 20), .int x6]) (fun _ => rfl) ?_
    by_cases hc1 : nI 20 < x6
    · rw [if_pos hc1] at hf
      refine t_cT (t := 132) (rfl : mfetch 94 47 = some (47, .if_icmp .gt 85, 3, 0, 0, 0)) rfl (k_gt hc1) ?_
      refine mEnds.stp 3 (pc' := 137) (l' := [some (.ref 10), none, some (.int x2), some (.int x3), some (.int x4), some (.int x5), some (.int x6), none, none]) (st' := [.int x2, .int x5, .int x4]) (fun _ => rfl) ?_
      obtain ⟨v1, hv1, hf⟩ := ob hf
      refine t_cs (as := [.int x4, .int x5, .int x2]) (st := []) (Or.inl rfl) (rfl : mfetch 94 137 = some (137, .invokestatic 189, 3, 108, 0, 0)) rfl rfl rfl ((ok_C_chosen hv1).deep 5) ?_
      exact mEnds.rti (Option.some.inj hf) (fun _ => rfl)
    · rw [if_neg hc1] at hf
      refine t_cF (rfl : mfetch 94 47 = some (47, .if_icmp .gt 85, 3, 0, 0, 0)) (k_gt' hc1) ?_
      refine mEnds.stp 2 (pc' := 53) (l' := [some (.ref 10), none, some (.int x2), some (.int x3), some (.int x4), some (.int x5), some (.int x6), some (.int (nI 0)), none]) (st' := []) (fun _ => rfl) ?_
      refine mEnds.cut (l := [some (.ref 10), none, some (.int x2), some (.int x3), some (.int x4), some (.int x5), some (.int x6), some (.int (nI 0)), none]) ⟨rfl, ⟨rfl, ⟨rfl, ⟨rfl, ⟨rfl, ⟨rfl, ⟨rfl, trivial⟩⟩⟩⟩⟩⟩⟩ ?_
      exact ok_C_ask_53 (ok_C_ask_43 fu) FU x4 x5 (nI 0) s _ hf
def C_ask (x1 : Int32) (x2 : Int32) (s : sg) : Option (Int32 × sg) :=
  (H_hasWall 11 x1 s).bind fun v1 =>
  if v1 = 0 then
    some ((-1), s)
  else
    (C_within x2 (nI 0) (nI 1) s).bind fun v2 =>
    if v2 = 0 then
      some ((-1), s)
    else
      (C_leaksAsFelt x1 s).bind fun v3 =>
      (C_layOutTrials x1 v3.1 v3.2).bind fun v4 =>
      C_ask_43 x2 v4.1 FU (-4) v4.1 (nI 0) v4.2
set_option maxRecDepth 100000 in
theorem ok_C_ask {x1 : Int32} {x2 : Int32} {s : sg} {rv : (Int32 × sg)} (hf : C_ask x1 x2 s = some rv) : mEnds [] 6 94 (0, [some (.ref 10), some (.int x1), some (.int x2), none, none, none, none, none, none], [], hp shC s, 0, 0) (some (.int rv.1), hp shC rv.2, 0, 0) := by
  unfold C_ask at hf
  refine mEnds.stp 1 (pc' := 1) (l' := [some (.ref 10), some (.int x1), some (.int x2), none, none, none, none, none, none]) (st' := [.ref 10]) (fun _ => rfl) ?_
  refine t_gr (rfl : mfetch 94 1 = some (1, .getfield 10, 3, 4, 0, 0)) rfl rfl ?_
  refine mEnds.stp 1 (pc' := 5) (l' := [some (.ref 10), some (.int x1), some (.int x2), none, none, none, none, none, none]) (st' := [.int x1, .ref 11]) (fun _ => rfl) ?_
  obtain ⟨v1, hv1, hf⟩ := ob hf
  refine t_cv (as := [.int x1]) (st := []) (rfl : mfetch 94 5 = some (5, .invokevirtual 141, 3, 9, 0, 0)) rfl rfl rfl rfl rfl ((ok_H_hasWall isH_11 hv1).deep 5) ?_
  by_cases hc1 : v1 = 0
  · rw [if_pos hc1] at hf
    refine t_jT (t := 20) (rfl : mfetch 94 8 = some (8, .ifCond .eq 12, 3, 0, 0, 0)) rfl (k_eq hc1) ?_
    refine mEnds.stp 1 (pc' := 21) (l' := [some (.ref 10), some (.int x1), some (.int x2), none, none, none, none, none, none]) (st' := [.int (-1)]) (fun _ => rfl) ?_
    exact mEnds.rti (Option.some.inj hf) (fun _ => rfl)
  · rw [if_neg hc1] at hf
    refine t_jF (rfl : mfetch 94 8 = some (8, .ifCond .eq 12, 3, 0, 0, 0)) (k_eq' hc1) ?_
    refine mEnds.stp 3 (pc' := 14) (l' := [some (.ref 10), some (.int x1), some (.int x2), none, none, none, none, none, none]) (st' := [.int (nI 1), .int (nI 0), .int x2]) (fun _ => rfl) ?_
    obtain ⟨v2, hv2, hf⟩ := ob hf
    refine t_cs (as := [.int x2, .int (nI 0), .int (nI 1)]) (st := []) (Or.inl rfl) (rfl : mfetch 94 14 = some (14, .invokestatic 48, 3, 105, 0, 0)) rfl rfl rfl ((ok_C_within hv2).deep 5) ?_
    by_cases hc2 : v2 = 0
    · rw [if_pos hc2] at hf
      refine t_jF (rfl : mfetch 94 17 = some (17, .ifCond .ne 5, 3, 0, 0, 0)) (k_ne' hc2) ?_
      refine mEnds.stp 1 (pc' := 21) (l' := [some (.ref 10), some (.int x1), some (.int x2), none, none, none, none, none, none]) (st' := [.int (-1)]) (fun _ => rfl) ?_
      exact mEnds.rti (Option.some.inj hf) (fun _ => rfl)
    · rw [if_neg hc2] at hf
      refine t_jT (t := 22) (rfl : mfetch 94 17 = some (17, .ifCond .ne 5, 3, 0, 0, 0)) rfl (k_ne hc2) ?_
      refine mEnds.stp 4 (pc' := 26) (l' := [some (.ref 10), some (.int x1), some (.int x2), none, none, none, none, none, none]) (st' := [.int x1, .ref 10, .int x1, .ref 10]) (fun _ => rfl) ?_
      obtain ⟨v3, hv3, hf⟩ := ob hf
      refine t_cv (as := [.int x1]) (st := [.int x1, .ref 10]) (rfl : mfetch 94 26 = some (26, .invokevirtual 239, 3, 93, 0, 0)) rfl rfl rfl rfl rfl (ok_C_leaksAsFelt hv3) ?_
      obtain ⟨v4, hv4, hf⟩ := ob hf
      refine t_cv (as := [.int x1, .int v3.1]) (st := []) (rfl : mfetch 94 29 = some (29, .invokevirtual 242, 3, 95, 0, 0)) rfl rfl rfl rfl rfl ((ok_C_layOutTrials hv4).deep 4) ?_
      refine mEnds.stp 7 (pc' := 43) (l' := [some (.ref 10), some (.int x1), some (.int x2), some (.int v4.1), some (.int (-4)), some (.int v4.1), some (.int (nI 0)), none, none]) (st' := []) (fun _ => rfl) ?_
      refine mEnds.cut (l := [some (.ref 10), none, some (.int x2), some (.int v4.1), some (.int (-4)), some (.int v4.1), some (.int (nI 0)), none, none]) ⟨rfl, ⟨rfl, ⟨rfl, ⟨rfl, ⟨rfl, ⟨rfl, trivial⟩⟩⟩⟩⟩⟩ ?_
      exact ok_C_ask_43 FU (-4) v4.1 (nI 0) v4.2 _ hf
def C_drift_46 (x2 : Int32) (x3 : Int32) : Nat → Int32 → Int32 → sg → Option (Int32 × sg)
  | 0, _, _, _ => none
  | fu + 1, x5, x6, s =>
  if x6 < x2 then
    (H_passHourBy 53 ((((((x5 * (nI 1103515245)) + (nI 12345)).toUInt32 >>> ((nI 16).toUInt32 &&& Int32.toUInt32 31)).toInt32) &&& (nI 32767)) - (((((x5 * (nI 1103515245)) + (nI 12345)).toUInt32 >>> ((nI 16).toUInt32 &&& Int32.toUInt32 31)).toInt32) &&& (nI 32767)) / (nI 40) * (nI 40)) (nI 0) s).bind fun s1 =>
    C_drift_46 x2 x3 fu ((x5 * (nI 1103515245)) + (nI 12345)) (x6 + (nI 1)) s1
  else
    if x3 = 0 then
      some ((s 53 3) - (s 11 3), s)
    else
      (H_warmthOfAll 53 s).bind fun v1 =>
      some (v1, s)
set_option maxRecDepth 100000 in
theorem ok_C_drift_46 {x2 : Int32} {x3 : Int32} : ∀ (fu : Nat) (x5 : Int32) (x6 : Int32) (s : sg) (rv : (Int32 × sg)), C_drift_46 x2 x3 fu x5 x6 s = some rv → mEnds [] 3 97 (46, [some (.ref 10), none, some (.int x2), some (.int x3), some (.ref 53), some (.int x5), some (.int x6)], [], hp shC s, 0, 0) (some (.int rv.1), hp shC rv.2, 0, 0)
  | 0, _, _, _, _, hf => by cases hf
  | fu + 1, x5, x6, s, rv, hf => by
    rw [C_drift_46] at hf
    refine mEnds.stp 2 (pc' := 49) (l' := [some (.ref 10), none, some (.int x2), some (.int x3), some (.ref 53), some (.int x5), some (.int x6)]) (st' := [.int x2, .int x6]) (fun _ => rfl) ?_
    by_cases hc1 : x6 < x2
    · rw [if_pos hc1] at hf
      refine t_cF (rfl : mfetch 97 49 = some (49, .if_icmp .ge 38, 3, 0, 0, 0)) (k_ge' hc1) ?_
      refine mEnds.stp 15 (pc' := 78) (l' := [some (.ref 10), none, some (.int x2), some (.int x3), some (.ref 53), some (.int ((x5 * (nI 1103515245)) + (nI 12345))), some (.int x6)]) (st' := [.int (nI 0), .int ((((((x5 * (nI 1103515245)) + (nI 12345)).toUInt32 >>> ((nI 16).toUInt32 &&& Int32.toUInt32 31)).toInt32) &&& (nI 32767)) - (((((x5 * (nI 1103515245)) + (nI 12345)).toUInt32 >>> ((nI 16).toUInt32 &&& Int32.toUInt32 31)).toInt32) &&& (nI 32767)) / (nI 40) * (nI 40)), .ref 53]) (fun _ => rfl) ?_
      obtain ⟨s1, hs1, hf⟩ := ob hf
      refine t_cv (as := [.int ((((((x5 * (nI 1103515245)) + (nI 12345)).toUInt32 >>> ((nI 16).toUInt32 &&& Int32.toUInt32 31)).toInt32) &&& (nI 32767)) - (((((x5 * (nI 1103515245)) + (nI 12345)).toUInt32 >>> ((nI 16).toUInt32 &&& Int32.toUInt32 31)).toInt32) &&& (nI 32767)) / (nI 40) * (nI 40)), .int (nI 0)]) (st := []) (rfl : mfetch 97 78 = some (78, .invokevirtual 221, 3, 24, 0, 0)) rfl rfl rfl rfl rfl (ok_H_passHourBy isH_53 hs1) ?_
      refine mEnds.stp 2 (pc' := 46) (l' := [some (.ref 10), none, some (.int x2), some (.int x3), some (.ref 53), some (.int ((x5 * (nI 1103515245)) + (nI 12345))), some (.int (x6 + (nI 1)))]) (st' := []) (fun _ => rfl) ?_
      refine mEnds.cut (l := [some (.ref 10), none, some (.int x2), some (.int x3), some (.ref 53), some (.int ((x5 * (nI 1103515245)) + (nI 12345))), some (.int (x6 + (nI 1)))]) ⟨rfl, ⟨rfl, ⟨rfl, ⟨rfl, ⟨rfl, ⟨rfl, trivial⟩⟩⟩⟩⟩⟩ ?_
      exact ok_C_drift_46 fu ((x5 * (nI 1103515245)) + (nI 12345)) (x6 + (nI 1)) s1 _ hf
    · rw [if_neg hc1] at hf
      refine t_cT (t := 87) (rfl : mfetch 97 49 = some (49, .if_icmp .ge 38, 3, 0, 0, 0)) rfl (k_ge hc1) ?_
      refine mEnds.stp 1 (pc' := 88) (l' := [some (.ref 10), none, some (.int x2), some (.int x3), some (.ref 53), some (.int x5), some (.int x6)]) (st' := [.int x3]) (fun _ => rfl) ?_
      by_cases hc2 : x3 = 0
      · rw [if_pos hc2] at hf
        refine t_jF (rfl : mfetch 97 88 = some (88, .ifCond .ne 19, 3, 0, 0, 0)) (k_ne' hc2) ?_
        refine mEnds.stp 1 (pc' := 93) (l' := [some (.ref 10), none, some (.int x2), some (.int x3), some (.ref 53), some (.int x5), some (.int x6)]) (st' := [.ref 53]) (fun _ => rfl) ?_
        refine t_gi (rfl : mfetch 97 93 = some (93, .getfield 89, 3, 1, 3, 0)) rfl rfl ?_
        refine mEnds.stp 1 (pc' := 97) (l' := [some (.ref 10), none, some (.int x2), some (.int x3), some (.ref 53), some (.int x5), some (.int x6)]) (st' := [.ref 10, .int (s 53 3)]) (fun _ => rfl) ?_
        refine t_gr (rfl : mfetch 97 97 = some (97, .getfield 10, 3, 4, 0, 0)) rfl rfl ?_
        refine t_gi (rfl : mfetch 97 100 = some (100, .getfield 89, 3, 1, 3, 0)) rfl rfl ?_
        refine mEnds.stp 2 (pc' := 112) (l' := [some (.ref 10), none, some (.int x2), some (.int x3), some (.ref 53), some (.int x5), some (.int x6)]) (st' := [.int ((s 53 3) - (s 11 3))]) (fun _ => rfl) ?_
        exact mEnds.rti (Option.some.inj hf) (fun _ => rfl)
      · rw [if_neg hc2] at hf
        refine t_jT (t := 107) (rfl : mfetch 97 88 = some (88, .ifCond .ne 19, 3, 0, 0, 0)) rfl (k_ne hc2) ?_
        refine mEnds.stp 1 (pc' := 109) (l' := [some (.ref 10), none, some (.int x2), some (.int x3), some (.ref 53), some (.int x5), some (.int x6)]) (st' := [.ref 53]) (fun _ => rfl) ?_
        obtain ⟨v1, hv1, hf⟩ := ob hf
        refine t_cv (as := []) (st := []) (rfl : mfetch 97 109 = some (109, .invokevirtual 95, 3, 15, 0, 0)) rfl rfl rfl rfl rfl ((ok_H_warmthOfAll isH_53 hv1).deep 1) ?_
        exact mEnds.rti (Option.some.inj hf) (fun _ => rfl)
def C_drift (x1 : Int32) (x2 : Int32) (x3 : Int32) (s : sg) : Option (Int32 × sg) :=
  (C_within x2 (nI 1) (nI 60) s).bind fun v1 =>
  if v1 = 0 then
    some ((-1), s)
  else
    (C_within x3 (nI 0) (nI 1) s).bind fun v2 =>
    if v2 = 0 then
      some ((-1), s)
    else
      if s 11 0 = 0 then
        some ((-2), s)
      else
        (C_copyOfNow s).bind fun s1 =>
        C_drift_46 x2 x3 FU x1 (nI 0) s1
set_option maxRecDepth 100000 in
theorem ok_C_drift {x1 : Int32} {x2 : Int32} {x3 : Int32} {s : sg} {rv : (Int32 × sg)} (hf : C_drift x1 x2 x3 s = some rv) : mEnds [] 3 97 (0, [some (.ref 10), some (.int x1), some (.int x2), some (.int x3), none, none, none], [], hp shC s, 0, 0) (some (.int rv.1), hp shC rv.2, 0, 0) := by
  unfold C_drift at hf
  refine mEnds.stp 3 (pc' := 4) (l' := [some (.ref 10), some (.int x1), some (.int x2), some (.int x3), none, none, none]) (st' := [.int (nI 60), .int (nI 1), .int x2]) (fun _ => rfl) ?_
  obtain ⟨v1, hv1, hf⟩ := ob hf
  refine t_cs (as := [.int x2, .int (nI 1), .int (nI 60)]) (st := []) (Or.inl rfl) (rfl : mfetch 97 4 = some (4, .invokestatic 48, 3, 105, 0, 0)) rfl rfl rfl ((ok_C_within hv1).deep 2) ?_
  by_cases hc1 : v1 = 0
  · rw [if_pos hc1] at hf
    refine t_jT (t := 19) (rfl : mfetch 97 7 = some (7, .ifCond .eq 12, 3, 0, 0, 0)) rfl (k_eq hc1) ?_
    refine mEnds.stp 1 (pc' := 20) (l' := [some (.ref 10), some (.int x1), some (.int x2), some (.int x3), none, none, none]) (st' := [.int (-1)]) (fun _ => rfl) ?_
    exact mEnds.rti (Option.some.inj hf) (fun _ => rfl)
  · rw [if_neg hc1] at hf
    refine t_jF (rfl : mfetch 97 7 = some (7, .ifCond .eq 12, 3, 0, 0, 0)) (k_eq' hc1) ?_
    refine mEnds.stp 3 (pc' := 13) (l' := [some (.ref 10), some (.int x1), some (.int x2), some (.int x3), none, none, none]) (st' := [.int (nI 1), .int (nI 0), .int x3]) (fun _ => rfl) ?_
    obtain ⟨v2, hv2, hf⟩ := ob hf
    refine t_cs (as := [.int x3, .int (nI 0), .int (nI 1)]) (st := []) (Or.inl rfl) (rfl : mfetch 97 13 = some (13, .invokestatic 48, 3, 105, 0, 0)) rfl rfl rfl ((ok_C_within hv2).deep 2) ?_
    by_cases hc2 : v2 = 0
    · rw [if_pos hc2] at hf
      refine t_jF (rfl : mfetch 97 16 = some (16, .ifCond .ne 5, 3, 0, 0, 0)) (k_ne' hc2) ?_
      refine mEnds.stp 1 (pc' := 20) (l' := [some (.ref 10), some (.int x1), some (.int x2), some (.int x3), none, none, none]) (st' := [.int (-1)]) (fun _ => rfl) ?_
      exact mEnds.rti (Option.some.inj hf) (fun _ => rfl)
    · rw [if_neg hc2] at hf
      refine t_jT (t := 21) (rfl : mfetch 97 16 = some (16, .ifCond .ne 5, 3, 0, 0, 0)) rfl (k_ne hc2) ?_
      refine mEnds.stp 1 (pc' := 22) (l' := [some (.ref 10), some (.int x1), some (.int x2), some (.int x3), none, none, none]) (st' := [.ref 10]) (fun _ => rfl) ?_
      refine t_gr (rfl : mfetch 97 22 = some (22, .getfield 10, 3, 4, 0, 0)) rfl rfl ?_
      refine t_gi (rfl : mfetch 97 25 = some (25, .getfield 83, 3, 1, 0, 0)) rfl rfl ?_
      by_cases hc3 : s 11 0 = 0
      · rw [if_pos hc3] at hf
        refine t_jF (rfl : mfetch 97 28 = some (28, .ifCond .ne 6, 3, 0, 0, 0)) (k_ne' hc3) ?_
        refine mEnds.stp 1 (pc' := 33) (l' := [some (.ref 10), some (.int x1), some (.int x2), some (.int x3), none, none, none]) (st' := [.int (-2)]) (fun _ => rfl) ?_
        exact mEnds.rti (Option.some.inj hf) (fun _ => rfl)
      · rw [if_neg hc3] at hf
        refine t_jT (t := 34) (rfl : mfetch 97 28 = some (28, .ifCond .ne 6, 3, 0, 0, 0)) rfl (k_ne hc3) ?_
        refine mEnds.stp 1 (pc' := 35) (l' := [some (.ref 10), some (.int x1), some (.int x2), some (.int x3), none, none, none]) (st' := [.ref 10]) (fun _ => rfl) ?_
        obtain ⟨s1, hs1, hf⟩ := ob hf
        refine t_cv (as := []) (st := []) (rfl : mfetch 97 35 = some (35, .invokevirtual 167, 3, 109, 0, 0)) rfl rfl rfl rfl rfl ((ok_C_copyOfNow hs1).deep 1) ?_
        refine mEnds.stp 5 (pc' := 46) (l' := [some (.ref 10), some (.int x1), some (.int x2), some (.int x3), some (.ref 53), some (.int x1), some (.int (nI 0))]) (st' := []) (fun _ => rfl) ?_
        refine mEnds.cut (l := [some (.ref 10), none, some (.int x2), some (.int x3), some (.ref 53), some (.int x1), some (.int (nI 0))]) ⟨rfl, ⟨rfl, ⟨rfl, ⟨rfl, ⟨rfl, ⟨rfl, trivial⟩⟩⟩⟩⟩⟩ ?_
        exact ok_C_drift_46 FU x1 (nI 0) s1 _ hf
def C_keep_25 (x1 : Int32) (y0 : Int32) (s : sg) : Option (Int32 × sg) :=
  (midx x1 2).bind fun j1 =>
  (H_copyFrom (37 + 8 * j1) 11 s).bind fun s1 =>
  (midx x1 2).bind fun j2 =>
  (some (up s1 20 j2 (vp_nar .boolean (nI 1)))).bind fun s2 =>
  some (y0, s2)
set_option maxRecDepth 100000 in
theorem ok_C_keep_25 {x1 : Int32} {y0 : Int32} {s : sg} {rv : (Int32 × sg)} (hf : C_keep_25 x1 y0 s = some rv) : mEnds [] 1 98 (25, [some (.ref 10), some (.int x1), none], [.int y0], hp shC s, 0, 0) (some (.int rv.1), hp shC rv.2, 0, 0) := by
  unfold C_keep_25 at hf
  refine mEnds.stp 2 (pc' := 27) (l' := [some (.ref 10), some (.int x1), some (.int y0)]) (st' := [.ref 10]) (fun _ => rfl) ?_
  refine t_gr (rfl : mfetch 98 27 = some (27, .getfield 16, 3, 4, 1, 0)) rfl rfl ?_
  refine mEnds.stp 1 (pc' := 31) (l' := [some (.ref 10), some (.int x1), some (.int y0)]) (st' := [.int x1, .ref 19]) (fun _ => rfl) ?_
  obtain ⟨j1, hj1, hf⟩ := ob hf
  refine t_aa (rfl : mfetch 98 31 = some (31, .aaload, 1, 0, 0, 0)) rfl rfl rfl hj1 (el_im (mi_lt hj1)) ?_
  refine mEnds.stp 1 (pc' := 33) (l' := [some (.ref 10), some (.int x1), some (.int y0)]) (st' := [.ref 10, .ref (37 + 8 * j1)]) (fun _ => rfl) ?_
  refine t_gr (rfl : mfetch 98 33 = some (33, .getfield 10, 3, 4, 0, 0)) rfl rfl ?_
  obtain ⟨s1, hs1, hf⟩ := ob hf
  refine t_cv (as := [.ref 11]) (st := []) (rfl : mfetch 98 36 = some (36, .invokevirtual 70, 3, 7, 0, 0)) (isH_im (mi_lt hj1)).1 rfl rfl rfl rfl (ok_H_copyFrom (isH_im (mi_lt hj1)) isH_11 hs1) ?_
  refine mEnds.stp 1 (pc' := 40) (l' := [some (.ref 10), some (.int x1), some (.int y0)]) (st' := [.ref 10]) (fun _ => rfl) ?_
  refine t_gr (rfl : mfetch 98 40 = some (40, .getfield 20, 3, 4, 2, 0)) rfl rfl ?_
  refine mEnds.stp 2 (pc' := 45) (l' := [some (.ref 10), some (.int x1), some (.int y0)]) (st' := [.int (nI 1), .int x1, .ref 20]) (fun _ => rfl) ?_
  obtain ⟨j2, hj2, hf⟩ := ob hf
  obtain ⟨s2, hs2, hf⟩ := ob hf
  refine t_zs (rfl : mfetch 98 45 = some (45, .bastore, 1, 0, 0, 0)) rfl rfl hj2 hs2 ?_
  refine mEnds.stp 1 (pc' := 47) (l' := [some (.ref 10), some (.int x1), some (.int y0)]) (st' := [.int y0]) (fun _ => rfl) ?_
  exact mEnds.rti (Option.some.inj hf) (fun _ => rfl)
def C_keep (x1 : Int32) (s : sg) : Option (Int32 × sg) :=
  (C_within x1 (nI 0) (nI 1) s).bind fun v1 =>
  if v1 = 0 then
    some ((-1), s)
  else
    (midx x1 2).bind fun j1 =>
    if s 20 j1 = 0 then
      C_keep_25 x1 (nI 0) s
    else
      C_keep_25 x1 (nI 1) s
set_option maxRecDepth 100000 in
theorem ok_C_keep {x1 : Int32} {s : sg} {rv : (Int32 × sg)} (hf : C_keep x1 s = some rv) : mEnds [] 1 98 (0, [some (.ref 10), some (.int x1), none], [], hp shC s, 0, 0) (some (.int rv.1), hp shC rv.2, 0, 0) := by
  unfold C_keep at hf
  refine mEnds.stp 3 (pc' := 3) (l' := [some (.ref 10), some (.int x1), none]) (st' := [.int (nI 1), .int (nI 0), .int x1]) (fun _ => rfl) ?_
  obtain ⟨v1, hv1, hf⟩ := ob hf
  refine t_cs (as := [.int x1, .int (nI 0), .int (nI 1)]) (st := []) (Or.inl rfl) (rfl : mfetch 98 3 = some (3, .invokestatic 48, 3, 105, 0, 0)) rfl rfl rfl (ok_C_within hv1) ?_
  by_cases hc1 : v1 = 0
  · rw [if_pos hc1] at hf
    refine t_jF (rfl : mfetch 98 6 = some (6, .ifCond .ne 5, 3, 0, 0, 0)) (k_ne' hc1) ?_
    refine mEnds.stp 1 (pc' := 10) (l' := [some (.ref 10), some (.int x1), none]) (st' := [.int (-1)]) (fun _ => rfl) ?_
    exact mEnds.rti (Option.some.inj hf) (fun _ => rfl)
  · rw [if_neg hc1] at hf
    refine t_jT (t := 11) (rfl : mfetch 98 6 = some (6, .ifCond .ne 5, 3, 0, 0, 0)) rfl (k_ne hc1) ?_
    refine mEnds.stp 1 (pc' := 12) (l' := [some (.ref 10), some (.int x1), none]) (st' := [.ref 10]) (fun _ => rfl) ?_
    refine t_gr (rfl : mfetch 98 12 = some (12, .getfield 20, 3, 4, 2, 0)) rfl rfl ?_
    refine mEnds.stp 1 (pc' := 16) (l' := [some (.ref 10), some (.int x1), none]) (st' := [.int x1, .ref 20]) (fun _ => rfl) ?_
    obtain ⟨j1, hj1, hf⟩ := ob hf
    refine t_ba (rfl : mfetch 98 16 = some (16, .baload, 1, 0, 0, 0)) rfl rfl rfl hj1 ?_
    by_cases hc2 : s 20 j1 = 0
    · rw [if_pos hc2] at hf
      refine t_jT (t := 24) (rfl : mfetch 98 17 = some (17, .ifCond .eq 7, 3, 0, 0, 0)) rfl (k_eq hc2) ?_
      refine mEnds.stp 1 (pc' := 25) (l' := [some (.ref 10), some (.int x1), none]) (st' := [.int (nI 0)]) (fun _ => rfl) ?_
      refine mEnds.cut (l := [some (.ref 10), some (.int x1), none]) ⟨rfl, ⟨rfl, trivial⟩⟩ ?_
      exact ok_C_keep_25 hf
    · rw [if_neg hc2] at hf
      refine t_jF (rfl : mfetch 98 17 = some (17, .ifCond .eq 7, 3, 0, 0, 0)) (k_eq' hc2) ?_
      refine mEnds.stp 2 (pc' := 25) (l' := [some (.ref 10), some (.int x1), none]) (st' := [.int (nI 1)]) (fun _ => rfl) ?_
      refine mEnds.cut (l := [some (.ref 10), some (.int x1), none]) ⟨rfl, ⟨rfl, trivial⟩⟩ ?_
      exact ok_C_keep_25 hf
def C_back (x1 : Int32) (s : sg) : Option (Int32 × sg) :=
  (C_within x1 (nI 0) (nI 1) s).bind fun v1 =>
  if v1 = 0 then
    some ((-1), s)
  else
    (midx x1 2).bind fun j1 =>
    if s 20 j1 = 0 then
      some ((-2), s)
    else
      (midx x1 2).bind fun j2 =>
      (H_copyFrom 11 (37 + 8 * j2) s).bind fun s1 =>
      some (s1 11 2, s1)
set_option maxRecDepth 100000 in
theorem ok_C_back {x1 : Int32} {s : sg} {rv : (Int32 × sg)} (hf : C_back x1 s = some rv) : mEnds [] 1 99 (0, [some (.ref 10), some (.int x1)], [], hp shC s, 0, 0) (some (.int rv.1), hp shC rv.2, 0, 0) := by
  unfold C_back at hf
  refine mEnds.stp 3 (pc' := 3) (l' := [some (.ref 10), some (.int x1)]) (st' := [.int (nI 1), .int (nI 0), .int x1]) (fun _ => rfl) ?_
  obtain ⟨v1, hv1, hf⟩ := ob hf
  refine t_cs (as := [.int x1, .int (nI 0), .int (nI 1)]) (st := []) (Or.inl rfl) (rfl : mfetch 99 3 = some (3, .invokestatic 48, 3, 105, 0, 0)) rfl rfl rfl (ok_C_within hv1) ?_
  by_cases hc1 : v1 = 0
  · rw [if_pos hc1] at hf
    refine t_jF (rfl : mfetch 99 6 = some (6, .ifCond .ne 5, 3, 0, 0, 0)) (k_ne' hc1) ?_
    refine mEnds.stp 1 (pc' := 10) (l' := [some (.ref 10), some (.int x1)]) (st' := [.int (-1)]) (fun _ => rfl) ?_
    exact mEnds.rti (Option.some.inj hf) (fun _ => rfl)
  · rw [if_neg hc1] at hf
    refine t_jT (t := 11) (rfl : mfetch 99 6 = some (6, .ifCond .ne 5, 3, 0, 0, 0)) rfl (k_ne hc1) ?_
    refine mEnds.stp 1 (pc' := 12) (l' := [some (.ref 10), some (.int x1)]) (st' := [.ref 10]) (fun _ => rfl) ?_
    refine t_gr (rfl : mfetch 99 12 = some (12, .getfield 20, 3, 4, 2, 0)) rfl rfl ?_
    refine mEnds.stp 1 (pc' := 16) (l' := [some (.ref 10), some (.int x1)]) (st' := [.int x1, .ref 20]) (fun _ => rfl) ?_
    obtain ⟨j1, hj1, hf⟩ := ob hf
    refine t_ba (rfl : mfetch 99 16 = some (16, .baload, 1, 0, 0, 0)) rfl rfl rfl hj1 ?_
    by_cases hc2 : s 20 j1 = 0
    · rw [if_pos hc2] at hf
      refine t_jF (rfl : mfetch 99 17 = some (17, .ifCond .ne 6, 3, 0, 0, 0)) (k_ne' hc2) ?_
      refine mEnds.stp 1 (pc' := 22) (l' := [some (.ref 10), some (.int x1)]) (st' := [.int (-2)]) (fun _ => rfl) ?_
      exact mEnds.rti (Option.some.inj hf) (fun _ => rfl)
    · rw [if_neg hc2] at hf
      refine t_jT (t := 23) (rfl : mfetch 99 17 = some (17, .ifCond .ne 6, 3, 0, 0, 0)) rfl (k_ne hc2) ?_
      refine mEnds.stp 1 (pc' := 24) (l' := [some (.ref 10), some (.int x1)]) (st' := [.ref 10]) (fun _ => rfl) ?_
      refine t_gr (rfl : mfetch 99 24 = some (24, .getfield 10, 3, 4, 0, 0)) rfl rfl ?_
      refine mEnds.stp 1 (pc' := 28) (l' := [some (.ref 10), some (.int x1)]) (st' := [.ref 10, .ref 11]) (fun _ => rfl) ?_
      refine t_gr (rfl : mfetch 99 28 = some (28, .getfield 16, 3, 4, 1, 0)) rfl rfl ?_
      refine mEnds.stp 1 (pc' := 32) (l' := [some (.ref 10), some (.int x1)]) (st' := [.int x1, .ref 19, .ref 11]) (fun _ => rfl) ?_
      obtain ⟨j2, hj2, hf⟩ := ob hf
      refine t_aa (rfl : mfetch 99 32 = some (32, .aaload, 1, 0, 0, 0)) rfl rfl rfl hj2 (el_im (mi_lt hj2)) ?_
      obtain ⟨s1, hs1, hf⟩ := ob hf
      refine t_cv (as := [.ref (37 + 8 * j2)]) (st := []) (rfl : mfetch 99 33 = some (33, .invokevirtual 70, 3, 7, 0, 0)) rfl rfl rfl rfl rfl (ok_H_copyFrom isH_11 (isH_im (mi_lt hj2)) hs1) ?_
      refine mEnds.stp 1 (pc' := 37) (l' := [some (.ref 10), some (.int x1)]) (st' := [.ref 10]) (fun _ => rfl) ?_
      refine t_gr (rfl : mfetch 99 37 = some (37, .getfield 10, 3, 4, 0, 0)) rfl rfl ?_
      refine t_gi (rfl : mfetch 99 40 = some (40, .getfield 86, 3, 1, 2, 0)) rfl rfl ?_
      exact mEnds.rti (Option.some.inj hf) (fun _ => rfl)
def C_sheet (x1 : Int32) (x2 : Int32) (x3 : Int32) (s : sg) : Option (Int32 × sg) :=
  (C_within x1 (nI 0) (nI 3) s).bind fun v1 =>
  if v1 = 0 then
    some ((-1), s)
  else
    (C_within x2 (nI 0) (nI 2) s).bind fun v2 =>
    if v2 = 0 then
      some ((-1), s)
    else
      if nI 40 < x3 then
        some ((-1), s)
      else
        if x3 < 0 then
          some ((-14), s)
        else
          (midx x1 4).bind fun j1 =>
          (S_renew (133 + 2 * j1) x2 x3 s).bind fun s1 =>
          some (nI 1, s1)
set_option maxRecDepth 100000 in
theorem ok_C_sheet {x1 : Int32} {x2 : Int32} {x3 : Int32} {s : sg} {rv : (Int32 × sg)} (hf : C_sheet x1 x2 x3 s = some rv) : mEnds [] 1 100 (0, [some (.ref 10), some (.int x1), some (.int x2), some (.int x3)], [], hp shC s, 0, 0) (some (.int rv.1), hp shC rv.2, 0, 0) := by
  unfold C_sheet at hf
  refine mEnds.stp 3 (pc' := 3) (l' := [some (.ref 10), some (.int x1), some (.int x2), some (.int x3)]) (st' := [.int (nI 3), .int (nI 0), .int x1]) (fun _ => rfl) ?_
  obtain ⟨v1, hv1, hf⟩ := ob hf
  refine t_cs (as := [.int x1, .int (nI 0), .int (nI 3)]) (st := []) (Or.inl rfl) (rfl : mfetch 100 3 = some (3, .invokestatic 48, 3, 105, 0, 0)) rfl rfl rfl (ok_C_within hv1) ?_
  by_cases hc1 : v1 = 0
  · rw [if_pos hc1] at hf
    refine t_jT (t := 24) (rfl : mfetch 100 6 = some (6, .ifCond .eq 18, 3, 0, 0, 0)) rfl (k_eq hc1) ?_
    refine mEnds.stp 1 (pc' := 25) (l' := [some (.ref 10), some (.int x1), some (.int x2), some (.int x3)]) (st' := [.int (-1)]) (fun _ => rfl) ?_
    exact mEnds.rti (Option.some.inj hf) (fun _ => rfl)
  · rw [if_neg hc1] at hf
    refine t_jF (rfl : mfetch 100 6 = some (6, .ifCond .eq 18, 3, 0, 0, 0)) (k_eq' hc1) ?_
    refine mEnds.stp 3 (pc' := 12) (l' := [some (.ref 10), some (.int x1), some (.int x2), some (.int x3)]) (st' := [.int (nI 2), .int (nI 0), .int x2]) (fun _ => rfl) ?_
    obtain ⟨v2, hv2, hf⟩ := ob hf
    refine t_cs (as := [.int x2, .int (nI 0), .int (nI 2)]) (st := []) (Or.inl rfl) (rfl : mfetch 100 12 = some (12, .invokestatic 48, 3, 105, 0, 0)) rfl rfl rfl (ok_C_within hv2) ?_
    by_cases hc2 : v2 = 0
    · rw [if_pos hc2] at hf
      refine t_jT (t := 24) (rfl : mfetch 100 15 = some (15, .ifCond .eq 9, 3, 0, 0, 0)) rfl (k_eq hc2) ?_
      refine mEnds.stp 1 (pc' := 25) (l' := [some (.ref 10), some (.int x1), some (.int x2), some (.int x3)]) (st' := [.int (-1)]) (fun _ => rfl) ?_
      exact mEnds.rti (Option.some.inj hf) (fun _ => rfl)
    · rw [if_neg hc2] at hf
      refine t_jF (rfl : mfetch 100 15 = some (15, .ifCond .eq 9, 3, 0, 0, 0)) (k_eq' hc2) ?_
      refine mEnds.stp 2 (pc' := 21) (l' := [some (.ref 10), some (.int x1), some (.int x2), some (.int x3)]) (st' := [.int (nI 40), .int x3]) (fun _ => rfl) ?_
      by_cases hc3 : nI 40 < x3
      · rw [if_pos hc3] at hf
        refine t_cF (rfl : mfetch 100 21 = some (21, .if_icmp .le 5, 3, 0, 0, 0)) (k_le' hc3) ?_
        refine mEnds.stp 1 (pc' := 25) (l' := [some (.ref 10), some (.int x1), some (.int x2), some (.int x3)]) (st' := [.int (-1)]) (fun _ => rfl) ?_
        exact mEnds.rti (Option.some.inj hf) (fun _ => rfl)
      · rw [if_neg hc3] at hf
        refine t_cT (t := 26) (rfl : mfetch 100 21 = some (21, .if_icmp .le 5, 3, 0, 0, 0)) rfl (k_le hc3) ?_
        refine mEnds.stp 1 (pc' := 27) (l' := [some (.ref 10), some (.int x1), some (.int x2), some (.int x3)]) (st' := [.int x3]) (fun _ => rfl) ?_
        by_cases hc4 : x3 < 0
        · rw [if_pos hc4] at hf
          refine t_jF (rfl : mfetch 100 27 = some (27, .ifCond .ge 6, 3, 0, 0, 0)) (k_ge' hc4) ?_
          refine mEnds.stp 1 (pc' := 32) (l' := [some (.ref 10), some (.int x1), some (.int x2), some (.int x3)]) (st' := [.int (-14)]) (fun _ => rfl) ?_
          exact mEnds.rti (Option.some.inj hf) (fun _ => rfl)
        · rw [if_neg hc4] at hf
          refine t_jT (t := 33) (rfl : mfetch 100 27 = some (27, .ifCond .ge 6, 3, 0, 0, 0)) rfl (k_ge hc4) ?_
          refine mEnds.stp 1 (pc' := 34) (l' := [some (.ref 10), some (.int x1), some (.int x2), some (.int x3)]) (st' := [.ref 10]) (fun _ => rfl) ?_
          refine t_gr (rfl : mfetch 100 34 = some (34, .getfield 29, 3, 4, 4, 0)) rfl rfl ?_
          refine mEnds.stp 1 (pc' := 38) (l' := [some (.ref 10), some (.int x1), some (.int x2), some (.int x3)]) (st' := [.int x1, .ref 22]) (fun _ => rfl) ?_
          obtain ⟨j1, hj1, hf⟩ := ob hf
          refine t_aa (rfl : mfetch 100 38 = some (38, .aaload, 1, 0, 0, 0)) rfl rfl rfl hj1 (el_sh (mi_lt hj1)) ?_
          refine mEnds.stp 2 (pc' := 41) (l' := [some (.ref 10), some (.int x1), some (.int x2), some (.int x3)]) (st' := [.int x3, .int x2, .ref (133 + 2 * j1)]) (fun _ => rfl) ?_
          obtain ⟨s1, hs1, hf⟩ := ob hf
          refine t_cv (as := [.int x2, .int x3]) (st := []) (rfl : mfetch 100 41 = some (41, .invokevirtual 251, 3, 31, 0, 0)) (isS_at (mi_lt hj1)).1 rfl rfl rfl rfl (ok_S_renew (isS_at (mi_lt hj1)) hs1) ?_
          refine mEnds.stp 1 (pc' := 45) (l' := [some (.ref 10), some (.int x1), some (.int x2), some (.int x3)]) (st' := [.int (nI 1)]) (fun _ => rfl) ?_
          exact mEnds.rti (Option.some.inj hf) (fun _ => rfl)
end Q30h
section Q30i
def C_lay (x1 : Int32) (x2 : Int32) (x3 : Int32) (s : sg) : Option (Int32 × sg) :=
  (C_within x1 (nI 0) (nI 3) s).bind fun v1 =>
  if v1 = 0 then
    some ((-1), s)
  else
    (midx x1 4).bind fun j1 =>
    (S_faultAt (133 + 2 * j1) (s (133 + 2 * j1) 0) x2 s).bind fun v2 =>
    if v2 = 0 then
      (S_put (133 + 2 * j1) x2 x3 s).bind fun s1 =>
      some (nI 1, s1)
    else
      some ((-10) - v2, s)
set_option maxRecDepth 100000 in
theorem ok_C_lay {x1 : Int32} {x2 : Int32} {x3 : Int32} {s : sg} {rv : (Int32 × sg)} (hf : C_lay x1 x2 x3 s = some rv) : mEnds [] 2 101 (0, [some (.ref 10), some (.int x1), some (.int x2), some (.int x3), none, none], [], hp shC s, 0, 0) (some (.int rv.1), hp shC rv.2, 0, 0) := by
  unfold C_lay at hf
  refine mEnds.stp 3 (pc' := 3) (l' := [some (.ref 10), some (.int x1), some (.int x2), some (.int x3), none, none]) (st' := [.int (nI 3), .int (nI 0), .int x1]) (fun _ => rfl) ?_
  obtain ⟨v1, hv1, hf⟩ := ob hf
  refine t_cs (as := [.int x1, .int (nI 0), .int (nI 3)]) (st := []) (Or.inl rfl) (rfl : mfetch 101 3 = some (3, .invokestatic 48, 3, 105, 0, 0)) rfl rfl rfl ((ok_C_within hv1).deep 1) ?_
  by_cases hc1 : v1 = 0
  · rw [if_pos hc1] at hf
    refine t_jF (rfl : mfetch 101 6 = some (6, .ifCond .ne 5, 3, 0, 0, 0)) (k_ne' hc1) ?_
    refine mEnds.stp 1 (pc' := 10) (l' := [some (.ref 10), some (.int x1), some (.int x2), some (.int x3), none, none]) (st' := [.int (-1)]) (fun _ => rfl) ?_
    exact mEnds.rti (Option.some.inj hf) (fun _ => rfl)
  · rw [if_neg hc1] at hf
    refine t_jT (t := 11) (rfl : mfetch 101 6 = some (6, .ifCond .ne 5, 3, 0, 0, 0)) rfl (k_ne hc1) ?_
    refine mEnds.stp 1 (pc' := 12) (l' := [some (.ref 10), some (.int x1), some (.int x2), some (.int x3), none, none]) (st' := [.ref 10]) (fun _ => rfl) ?_
    refine t_gr (rfl : mfetch 101 12 = some (12, .getfield 29, 3, 4, 4, 0)) rfl rfl ?_
    refine mEnds.stp 1 (pc' := 16) (l' := [some (.ref 10), some (.int x1), some (.int x2), some (.int x3), none, none]) (st' := [.int x1, .ref 22]) (fun _ => rfl) ?_
    obtain ⟨j1, hj1, hf⟩ := ob hf
    refine t_aa (rfl : mfetch 101 16 = some (16, .aaload, 1, 0, 0, 0)) rfl rfl rfl hj1 (el_sh (mi_lt hj1)) ?_
    refine mEnds.stp 3 (pc' := 23) (l' := [some (.ref 10), some (.int x1), some (.int x2), some (.int x3), some (.ref (133 + 2 * j1)), none]) (st' := [.ref (133 + 2 * j1), .ref (133 + 2 * j1)]) (fun _ => rfl) ?_
    refine t_gi (rfl : mfetch 101 23 = some (23, .getfield 254, 3, 2, 0, 0)) (isS_at (mi_lt hj1)).1 rfl ?_
    refine mEnds.stp 1 (pc' := 27) (l' := [some (.ref 10), some (.int x1), some (.int x2), some (.int x3), some (.ref (133 + 2 * j1)), none]) (st' := [.int x2, .int (s (133 + 2 * j1) 0), .ref (133 + 2 * j1)]) (fun _ => rfl) ?_
    obtain ⟨v2, hv2, hf⟩ := ob hf
    refine t_cv (as := [.int (s (133 + 2 * j1) 0), .int x2]) (st := []) (rfl : mfetch 101 27 = some (27, .invokevirtual 257, 3, 33, 0, 0)) (isS_at (mi_lt hj1)).1 rfl rfl rfl rfl (ok_S_faultAt (isS_at (mi_lt hj1)) hv2) ?_
    refine mEnds.stp 2 (pc' := 34) (l' := [some (.ref 10), some (.int x1), some (.int x2), some (.int x3), some (.ref (133 + 2 * j1)), some (.int v2)]) (st' := [.int v2]) (fun _ => rfl) ?_
    by_cases hc2 : v2 = 0
    · rw [if_pos hc2] at hf
      refine t_jT (t := 43) (rfl : mfetch 101 34 = some (34, .ifCond .eq 9, 3, 0, 0, 0)) rfl (k_eq hc2) ?_
      refine mEnds.stp 3 (pc' := 47) (l' := [some (.ref 10), some (.int x1), some (.int x2), some (.int x3), some (.ref (133 + 2 * j1)), some (.int v2)]) (st' := [.int x3, .int x2, .ref (133 + 2 * j1)]) (fun _ => rfl) ?_
      obtain ⟨s1, hs1, hf⟩ := ob hf
      refine t_cv (as := [.int x2, .int x3]) (st := []) (rfl : mfetch 101 47 = some (47, .invokevirtual 260, 3, 32, 0, 0)) (isS_at (mi_lt hj1)).1 rfl rfl rfl rfl ((ok_S_put (isS_at (mi_lt hj1)) hs1).deep 1) ?_
      refine mEnds.stp 1 (pc' := 51) (l' := [some (.ref 10), some (.int x1), some (.int x2), some (.int x3), some (.ref (133 + 2 * j1)), some (.int v2)]) (st' := [.int (nI 1)]) (fun _ => rfl) ?_
      exact mEnds.rti (Option.some.inj hf) (fun _ => rfl)
    · rw [if_neg hc2] at hf
      refine t_jF (rfl : mfetch 101 34 = some (34, .ifCond .eq 9, 3, 0, 0, 0)) (k_eq' hc2) ?_
      refine mEnds.stp 3 (pc' := 42) (l' := [some (.ref 10), some (.int x1), some (.int x2), some (.int x3), some (.ref (133 + 2 * j1)), some (.int v2)]) (st' := [.int ((-10) - v2)]) (fun _ => rfl) ?_
      exact mEnds.rti (Option.some.inj hf) (fun _ => rfl)
def C_read_130 (x7 : Int32) (x8 : Int32) (s : sg) : Option (Int32 × sg) :=
  (H_copyFrom 11 53 s).bind fun s1 =>
  (some (up s1 10 7 x7)).bind fun s2 =>
  some (x8, s2)
set_option maxRecDepth 100000 in
theorem ok_C_read_130 {x7 : Int32} {x8 : Int32} {s : sg} {rv : (Int32 × sg)} (hf : C_read_130 x7 x8 s = some rv) : mEnds [] 5 102 (130, [some (.ref 10), none, none, none, none, none, some (.ref 53), some (.int x7), some (.int x8), none, none], [], hp shC s, 0, 0) (some (.int rv.1), hp shC rv.2, 0, 0) := by
  unfold C_read_130 at hf
  refine mEnds.stp 1 (pc' := 131) (l' := [some (.ref 10), none, none, none, none, none, some (.ref 53), some (.int x7), some (.int x8), none, none]) (st' := [.ref 10]) (fun _ => rfl) ?_
  refine t_gr (rfl : mfetch 102 131 = some (131, .getfield 10, 3, 4, 0, 0)) rfl rfl ?_
  refine mEnds.stp 1 (pc' := 136) (l' := [some (.ref 10), none, none, none, none, none, some (.ref 53), some (.int x7), some (.int x8), none, none]) (st' := [.ref 53, .ref 11]) (fun _ => rfl) ?_
  obtain ⟨s1, hs1, hf⟩ := ob hf
  refine t_cv (as := [.ref 53]) (st := []) (rfl : mfetch 102 136 = some (136, .invokevirtual 70, 3, 7, 0, 0)) rfl rfl rfl rfl rfl ((ok_H_copyFrom isH_11 isH_53 hs1).deep 4) ?_
  refine mEnds.stp 2 (pc' := 142) (l' := [some (.ref 10), none, none, none, none, none, some (.ref 53), some (.int x7), some (.int x8), none, none]) (st' := [.int x7, .ref 10]) (fun _ => rfl) ?_
  obtain ⟨s2, hs2, hf⟩ := ob hf
  refine t_pi (rfl : mfetch 102 142 = some (142, .putfield 272, 3, 4, 7, 0)) rfl rfl rfl rfl hs2 ?_
  refine mEnds.stp 1 (pc' := 147) (l' := [some (.ref 10), none, none, none, none, none, some (.ref 53), some (.int x7), some (.int x8), none, none]) (st' := [.int x8]) (fun _ => rfl) ?_
  exact mEnds.rti (Option.some.inj hf) (fun _ => rfl)
def C_read_54 (x2 : Int32) (x3 : Int32) (x4 : Int32) (x5 : Nat) : Nat → Int32 → Int32 → Int32 → sg → Option (Int32 × sg)
  | 0, _, _, _, _ => none
  | fu + 1, x7, x8, x9, s =>
  if x9 < x4 then
    if x7 = 0 then
      (S_faultAtPair x5 x2 (x3 + ((nI 2) * x9)) s).bind fun v1 =>
      if v1 = 0 then
        (midx (x3 + ((nI 2) * x9)) 40).bind fun j1 =>
        (midx ((x3 + ((nI 2) * x9)) + (nI 1)) 40).bind fun j2 =>
        (H_takesMarkAndHour 53 (s (x5 + 1) j1) (s (x5 + 1) j2) s).bind fun v2 =>
        if v2.1 = 0 then
          some ((-20) - x9, v2.2)
        else
          C_read_54 x2 x3 x4 x5 fu v1 (x8 + (nI 1)) (x9 + (nI 1)) v2.2
      else
        C_read_54 x2 x3 x4 x5 fu v1 x8 (x9 + (nI 1)) s
    else
      C_read_130 x7 x8 s
  else
    C_read_130 x7 x8 s
set_option maxRecDepth 100000 in
theorem ok_C_read_54 {x2 : Int32} {x3 : Int32} {x4 : Int32} {x5 : Nat} (hx5 : isS x5) : ∀ (fu : Nat) (x7 : Int32) (x8 : Int32) (x9 : Int32) (s : sg) (rv : (Int32 × sg)), C_read_54 x2 x3 x4 x5 fu x7 x8 x9 s = some rv → mEnds [] 5 102 (54, [some (.ref 10), none, some (.int x2), some (.int x3), some (.int x4), some (.ref x5), some (.ref 53), some (.int x7), some (.int x8), some (.int x9), none], [], hp shC s, 0, 0) (some (.int rv.1), hp shC rv.2, 0, 0)
  | 0, _, _, _, _, _, hf => by cases hf
  | fu + 1, x7, x8, x9, s, rv, hf => by
    rw [C_read_54] at hf
    refine mEnds.stp 2 (pc' := 58) (l' := [some (.ref 10), none, some (.int x2), some (.int x3), some (.int x4), some (.ref x5), some (.ref 53), some (.int x7), some (.int x8), some (.int x9), none]) (st' := [.int x4, .int x9]) (fun _ => rfl) ?_
    by_cases hc1 : x9 < x4
    · rw [if_pos hc1] at hf
      refine t_cF (rfl : mfetch 102 58 = some (58, .if_icmp .ge 72, 3, 0, 0, 0)) (k_ge' hc1) ?_
      refine mEnds.stp 1 (pc' := 63) (l' := [some (.ref 10), none, some (.int x2), some (.int x3), some (.int x4), some (.ref x5), some (.ref 53), some (.int x7), some (.int x8), some (.int x9), none]) (st' := [.int x7]) (fun _ => rfl) ?_
      by_cases hc2 : x7 = 0
      · rw [if_pos hc2] at hf
        refine t_jF (rfl : mfetch 102 63 = some (63, .ifCond .ne 67, 3, 0, 0, 0)) (k_ne' hc2) ?_
        refine mEnds.stp 9 (pc' := 79) (l' := [some (.ref 10), none, some (.int x2), some (.int x3), some (.int x4), some (.ref x5), some (.ref 53), some (.int x7), some (.int x8), some (.int x9), some (.int (x3 + ((nI 2) * x9)))]) (st' := [.int (x3 + ((nI 2) * x9)), .int x2, .ref x5]) (fun _ => rfl) ?_
        obtain ⟨v1, hv1, hf⟩ := ob hf
        refine t_cv (as := [.int x2, .int (x3 + ((nI 2) * x9))]) (st := []) (rfl : mfetch 102 79 = some (79, .invokevirtual 262, 3, 34, 0, 0)) hx5.1 rfl rfl rfl rfl ((ok_S_faultAtPair hx5 hv1).deep 2) ?_
        refine mEnds.stp 2 (pc' := 86) (l' := [some (.ref 10), none, some (.int x2), some (.int x3), some (.int x4), some (.ref x5), some (.ref 53), some (.int v1), some (.int x8), some (.int x9), some (.int (x3 + ((nI 2) * x9)))]) (st' := [.int v1]) (fun _ => rfl) ?_
        by_cases hc3 : v1 = 0
        · rw [if_pos hc3] at hf
          refine t_jF (rfl : mfetch 102 86 = some (86, .ifCond .ne 38, 3, 0, 0, 0)) (k_ne' hc3) ?_
          refine mEnds.stp 2 (pc' := 93) (l' := [some (.ref 10), none, some (.int x2), some (.int x3), some (.int x4), some (.ref x5), some (.ref 53), some (.int v1), some (.int x8), some (.int x9), some (.int (x3 + ((nI 2) * x9)))]) (st' := [.ref x5, .ref 53]) (fun _ => rfl) ?_
          refine t_gr (rfl : mfetch 102 93 = some (93, .getfield 265, 3, 2, 2, 0)) hx5.1 rfl ?_
          refine mEnds.stp 1 (pc' := 98) (l' := [some (.ref 10), none, some (.int x2), some (.int x3), some (.int x4), some (.ref x5), some (.ref 53), some (.int v1), some (.int x8), some (.int x9), some (.int (x3 + ((nI 2) * x9)))]) (st' := [.int (x3 + ((nI 2) * x9)), .ref (x5 + 1), .ref 53]) (fun _ => rfl) ?_
          obtain ⟨j1, hj1, hf⟩ := ob hf
          refine t_ia (rfl : mfetch 102 98 = some (98, .iaload, 1, 0, 0, 0)) hx5.2 (isS_le hx5 1) hj1 ?_
          refine mEnds.stp 1 (pc' := 101) (l' := [some (.ref 10), none, some (.int x2), some (.int x3), some (.int x4), some (.ref x5), some (.ref 53), some (.int v1), some (.int x8), some (.int x9), some (.int (x3 + ((nI 2) * x9)))]) (st' := [.ref x5, .int (s (x5 + 1) j1), .ref 53]) (fun _ => rfl) ?_
          refine t_gr (rfl : mfetch 102 101 = some (101, .getfield 265, 3, 2, 2, 0)) hx5.1 rfl ?_
          refine mEnds.stp 3 (pc' := 108) (l' := [some (.ref 10), none, some (.int x2), some (.int x3), some (.int x4), some (.ref x5), some (.ref 53), some (.int v1), some (.int x8), some (.int x9), some (.int (x3 + ((nI 2) * x9)))]) (st' := [.int ((x3 + ((nI 2) * x9)) + (nI 1)), .ref (x5 + 1), .int (s (x5 + 1) j1), .ref 53]) (fun _ => rfl) ?_
          obtain ⟨j2, hj2, hf⟩ := ob hf
          refine t_ia (rfl : mfetch 102 108 = some (108, .iaload, 1, 0, 0, 0)) hx5.2 (isS_le hx5 1) hj2 ?_
          obtain ⟨v2, hv2, hf⟩ := ob hf
          refine t_cv (as := [.int (s (x5 + 1) j1), .int (s (x5 + 1) j2)]) (st := []) (rfl : mfetch 102 109 = some (109, .invokevirtual 268, 3, 19, 0, 0)) rfl rfl rfl rfl rfl (ok_H_takesMarkAndHour isH_53 hv2) ?_
          by_cases hc4 : v2.1 = 0
          · rw [if_pos hc4] at hf
            refine t_jF (rfl : mfetch 102 112 = some (112, .ifCond .ne 9, 3, 0, 0, 0)) (k_ne' hc4) ?_
            refine mEnds.stp 3 (pc' := 120) (l' := [some (.ref 10), none, some (.int x2), some (.int x3), some (.int x4), some (.ref x5), some (.ref 53), some (.int v1), some (.int x8), some (.int x9), some (.int (x3 + ((nI 2) * x9)))]) (st' := [.int ((-20) - x9)]) (fun _ => rfl) ?_
            exact mEnds.rti (Option.some.inj hf) (fun _ => rfl)
          · rw [if_neg hc4] at hf
            refine t_jT (t := 121) (rfl : mfetch 102 112 = some (112, .ifCond .ne 9, 3, 0, 0, 0)) rfl (k_ne hc4) ?_
            refine mEnds.stp 3 (pc' := 54) (l' := [some (.ref 10), none, some (.int x2), some (.int x3), some (.int x4), some (.ref x5), some (.ref 53), some (.int v1), some (.int (x8 + (nI 1))), some (.int (x9 + (nI 1))), some (.int (x3 + ((nI 2) * x9)))]) (st' := []) (fun _ => rfl) ?_
            refine mEnds.cut (l := [some (.ref 10), none, some (.int x2), some (.int x3), some (.int x4), some (.ref x5), some (.ref 53), some (.int v1), some (.int (x8 + (nI 1))), some (.int (x9 + (nI 1))), none]) ⟨rfl, ⟨rfl, ⟨rfl, ⟨rfl, ⟨rfl, ⟨rfl, ⟨rfl, ⟨rfl, ⟨rfl, trivial⟩⟩⟩⟩⟩⟩⟩⟩⟩ ?_
            exact ok_C_read_54 hx5 fu v1 (x8 + (nI 1)) (x9 + (nI 1)) v2.2 _ hf
        · rw [if_neg hc3] at hf
          refine t_jT (t := 124) (rfl : mfetch 102 86 = some (86, .ifCond .ne 38, 3, 0, 0, 0)) rfl (k_ne hc3) ?_
          refine mEnds.stp 2 (pc' := 54) (l' := [some (.ref 10), none, some (.int x2), some (.int x3), some (.int x4), some (.ref x5), some (.ref 53), some (.int v1), some (.int x8), some (.int (x9 + (nI 1))), some (.int (x3 + ((nI 2) * x9)))]) (st' := []) (fun _ => rfl) ?_
          refine mEnds.cut (l := [some (.ref 10), none, some (.int x2), some (.int x3), some (.int x4), some (.ref x5), some (.ref 53), some (.int v1), some (.int x8), some (.int (x9 + (nI 1))), none]) ⟨rfl, ⟨rfl, ⟨rfl, ⟨rfl, ⟨rfl, ⟨rfl, ⟨rfl, ⟨rfl, ⟨rfl, trivial⟩⟩⟩⟩⟩⟩⟩⟩⟩ ?_
          exact ok_C_read_54 hx5 fu v1 x8 (x9 + (nI 1)) s _ hf
      · rw [if_neg hc2] at hf
        refine t_jT (t := 130) (rfl : mfetch 102 63 = some (63, .ifCond .ne 67, 3, 0, 0, 0)) rfl (k_ne hc2) ?_
        refine mEnds.cut (l := [some (.ref 10), none, none, none, none, none, some (.ref 53), some (.int x7), some (.int x8), none, none]) ⟨rfl, ⟨rfl, ⟨rfl, ⟨rfl, trivial⟩⟩⟩⟩ ?_
        exact ok_C_read_130 hf
    · rw [if_neg hc1] at hf
      refine t_cT (t := 130) (rfl : mfetch 102 58 = some (58, .if_icmp .ge 72, 3, 0, 0, 0)) rfl (k_ge hc1) ?_
      refine mEnds.cut (l := [some (.ref 10), none, none, none, none, none, some (.ref 53), some (.int x7), some (.int x8), none, none]) ⟨rfl, ⟨rfl, ⟨rfl, ⟨rfl, trivial⟩⟩⟩⟩ ?_
      exact ok_C_read_130 hf
def C_read (x1 : Int32) (x2 : Int32) (x3 : Int32) (x4 : Int32) (s : sg) : Option (Int32 × sg) :=
  (C_within x1 (nI 0) (nI 3) s).bind fun v1 =>
  if v1 = 0 then
    some ((-1), s)
  else
    (C_within x2 (nI 0) (nI 2) s).bind fun v2 =>
    if v2 = 0 then
      some ((-1), s)
    else
      (C_within x4 (nI 0) (nI 20) s).bind fun v3 =>
      if v3 = 0 then
        some ((-1), s)
      else
        (midx x1 4).bind fun j1 =>
        (C_copyOfNow s).bind fun s1 =>
        C_read_54 x2 x3 x4 (133 + 2 * j1) FU (nI 0) (nI 0) (nI 0) s1
set_option maxRecDepth 100000 in
theorem ok_C_read {x1 : Int32} {x2 : Int32} {x3 : Int32} {x4 : Int32} {s : sg} {rv : (Int32 × sg)} (hf : C_read x1 x2 x3 x4 s = some rv) : mEnds [] 5 102 (0, [some (.ref 10), some (.int x1), some (.int x2), some (.int x3), some (.int x4), none, none, none, none, none, none], [], hp shC s, 0, 0) (some (.int rv.1), hp shC rv.2, 0, 0) := by
  unfold C_read at hf
  refine mEnds.stp 3 (pc' := 3) (l' := [some (.ref 10), some (.int x1), some (.int x2), some (.int x3), some (.int x4), none, none, none, none, none, none]) (st' := [.int (nI 3), .int (nI 0), .int x1]) (fun _ => rfl) ?_
  obtain ⟨v1, hv1, hf⟩ := ob hf
  refine t_cs (as := [.int x1, .int (nI 0), .int (nI 3)]) (st := []) (Or.inl rfl) (rfl : mfetch 102 3 = some (3, .invokestatic 48, 3, 105, 0, 0)) rfl rfl rfl ((ok_C_within hv1).deep 4) ?_
  by_cases hc1 : v1 = 0
  · rw [if_pos hc1] at hf
    refine t_jT (t := 29) (rfl : mfetch 102 6 = some (6, .ifCond .eq 23, 3, 0, 0, 0)) rfl (k_eq hc1) ?_
    refine mEnds.stp 1 (pc' := 30) (l' := [some (.ref 10), some (.int x1), some (.int x2), some (.int x3), some (.int x4), none, none, none, none, none, none]) (st' := [.int (-1)]) (fun _ => rfl) ?_
    exact mEnds.rti (Option.some.inj hf) (fun _ => rfl)
  · rw [if_neg hc1] at hf
    refine t_jF (rfl : mfetch 102 6 = some (6, .ifCond .eq 23, 3, 0, 0, 0)) (k_eq' hc1) ?_
    refine mEnds.stp 3 (pc' := 12) (l' := [some (.ref 10), some (.int x1), some (.int x2), some (.int x3), some (.int x4), none, none, none, none, none, none]) (st' := [.int (nI 2), .int (nI 0), .int x2]) (fun _ => rfl) ?_
    obtain ⟨v2, hv2, hf⟩ := ob hf
    refine t_cs (as := [.int x2, .int (nI 0), .int (nI 2)]) (st := []) (Or.inl rfl) (rfl : mfetch 102 12 = some (12, .invokestatic 48, 3, 105, 0, 0)) rfl rfl rfl ((ok_C_within hv2).deep 4) ?_
    by_cases hc2 : v2 = 0
    · rw [if_pos hc2] at hf
      refine t_jT (t := 29) (rfl : mfetch 102 15 = some (15, .ifCond .eq 14, 3, 0, 0, 0)) rfl (k_eq hc2) ?_
      refine mEnds.stp 1 (pc' := 30) (l' := [some (.ref 10), some (.int x1), some (.int x2), some (.int x3), some (.int x4), none, none, none, none, none, none]) (st' := [.int (-1)]) (fun _ => rfl) ?_
      exact mEnds.rti (Option.some.inj hf) (fun _ => rfl)
    · rw [if_neg hc2] at hf
      refine t_jF (rfl : mfetch 102 15 = some (15, .ifCond .eq 14, 3, 0, 0, 0)) (k_eq' hc2) ?_
      refine mEnds.stp 3 (pc' := 23) (l' := [some (.ref 10), some (.int x1), some (.int x2), some (.int x3), some (.int x4), none, none, none, none, none, none]) (st' := [.int (nI 20), .int (nI 0), .int x4]) (fun _ => rfl) ?_
      obtain ⟨v3, hv3, hf⟩ := ob hf
      refine t_cs (as := [.int x4, .int (nI 0), .int (nI 20)]) (st := []) (Or.inl rfl) (rfl : mfetch 102 23 = some (23, .invokestatic 48, 3, 105, 0, 0)) rfl rfl rfl ((ok_C_within hv3).deep 4) ?_
      by_cases hc3 : v3 = 0
      · rw [if_pos hc3] at hf
        refine t_jF (rfl : mfetch 102 26 = some (26, .ifCond .ne 5, 3, 0, 0, 0)) (k_ne' hc3) ?_
        refine mEnds.stp 1 (pc' := 30) (l' := [some (.ref 10), some (.int x1), some (.int x2), some (.int x3), some (.int x4), none, none, none, none, none, none]) (st' := [.int (-1)]) (fun _ => rfl) ?_
        exact mEnds.rti (Option.some.inj hf) (fun _ => rfl)
      · rw [if_neg hc3] at hf
        refine t_jT (t := 31) (rfl : mfetch 102 26 = some (26, .ifCond .ne 5, 3, 0, 0, 0)) rfl (k_ne hc3) ?_
        refine mEnds.stp 1 (pc' := 32) (l' := [some (.ref 10), some (.int x1), some (.int x2), some (.int x3), some (.int x4), none, none, none, none, none, none]) (st' := [.ref 10]) (fun _ => rfl) ?_
        refine t_gr (rfl : mfetch 102 32 = some (32, .getfield 29, 3, 4, 4, 0)) rfl rfl ?_
        refine mEnds.stp 1 (pc' := 36) (l' := [some (.ref 10), some (.int x1), some (.int x2), some (.int x3), some (.int x4), none, none, none, none, none, none]) (st' := [.int x1, .ref 22]) (fun _ => rfl) ?_
        obtain ⟨j1, hj1, hf⟩ := ob hf
        refine t_aa (rfl : mfetch 102 36 = some (36, .aaload, 1, 0, 0, 0)) rfl rfl rfl hj1 (el_sh (mi_lt hj1)) ?_
        refine mEnds.stp 2 (pc' := 40) (l' := [some (.ref 10), some (.int x1), some (.int x2), some (.int x3), some (.int x4), some (.ref (133 + 2 * j1)), none, none, none, none, none]) (st' := [.ref 10]) (fun _ => rfl) ?_
        obtain ⟨s1, hs1, hf⟩ := ob hf
        refine t_cv (as := []) (st := []) (rfl : mfetch 102 40 = some (40, .invokevirtual 167, 3, 109, 0, 0)) rfl rfl rfl rfl rfl ((ok_C_copyOfNow hs1).deep 3) ?_
        refine mEnds.stp 7 (pc' := 54) (l' := [some (.ref 10), some (.int x1), some (.int x2), some (.int x3), some (.int x4), some (.ref (133 + 2 * j1)), some (.ref 53), some (.int (nI 0)), some (.int (nI 0)), some (.int (nI 0)), none]) (st' := []) (fun _ => rfl) ?_
        refine mEnds.cut (l := [some (.ref 10), none, some (.int x2), some (.int x3), some (.int x4), some (.ref (133 + 2 * j1)), some (.ref 53), some (.int (nI 0)), some (.int (nI 0)), some (.int (nI 0)), none]) ⟨rfl, ⟨rfl, ⟨rfl, ⟨rfl, ⟨rfl, ⟨rfl, ⟨rfl, ⟨rfl, ⟨rfl, trivial⟩⟩⟩⟩⟩⟩⟩⟩⟩ ?_
        exact ok_C_read_54 (isS_at (mi_lt hj1)) FU (nI 0) (nI 0) (nI 0) s1 _ hf
def C_torn (s : sg) : Option Int32 :=
  some (s 10 7)
set_option maxRecDepth 100000 in
theorem ok_C_torn {s : sg} {rv : Int32} (hf : C_torn s = some rv) : mEnds [] 0 103 (0, [some (.ref 10)], [], hp shC s, 0, 0) (some (.int rv), hp shC s, 0, 0) := by
  unfold C_torn at hf
  refine mEnds.stp 1 (pc' := 1) (l' := [some (.ref 10)]) (st' := [.ref 10]) (fun _ => rfl) ?_
  refine t_gi (rfl : mfetch 103 1 = some (1, .getfield 272, 3, 4, 7, 0)) rfl rfl ?_
  cases hf; exact mEnds.rt (fun _ => rfl)
def C_count_62 (y0 : Int32) (s : sg) : Option Int32 :=
  (midx (nI 1) 2).bind fun j1 =>
  if s 20 j1 = 0 then
    some (y0 + (nI 0))
  else
    some (y0 + (nI 1))
set_option maxRecDepth 100000 in
theorem ok_C_count_62 {y0 : Int32} {s : sg} {rv : Int32} (hf : C_count_62 y0 s = some rv) : mEnds [] 1 104 (62, [some (.ref 10), none], [.int y0], hp shC s, 0, 0) (some (.int rv), hp shC s, 0, 0) := by
  unfold C_count_62 at hf
  refine mEnds.stp 1 (pc' := 63) (l' := [some (.ref 10), none]) (st' := [.ref 10, .int y0]) (fun _ => rfl) ?_
  refine t_gr (rfl : mfetch 104 63 = some (63, .getfield 20, 3, 4, 2, 0)) rfl rfl ?_
  refine mEnds.stp 1 (pc' := 67) (l' := [some (.ref 10), none]) (st' := [.int (nI 1), .ref 20, .int y0]) (fun _ => rfl) ?_
  obtain ⟨j1, hj1, hf⟩ := ob hf
  refine t_ba (rfl : mfetch 104 67 = some (67, .baload, 1, 0, 0, 0)) rfl rfl rfl hj1 ?_
  by_cases hc1 : s 20 j1 = 0
  · rw [if_pos hc1] at hf
    refine t_jT (t := 75) (rfl : mfetch 104 68 = some (68, .ifCond .eq 7, 3, 0, 0, 0)) rfl (k_eq hc1) ?_
    refine mEnds.stp 2 (pc' := 77) (l' := [some (.ref 10), none]) (st' := [.int (y0 + (nI 0))]) (fun _ => rfl) ?_
    cases hf; exact mEnds.rt (fun _ => rfl)
  · rw [if_neg hc1] at hf
    refine t_jF (rfl : mfetch 104 68 = some (68, .ifCond .eq 7, 3, 0, 0, 0)) (k_eq' hc1) ?_
    refine mEnds.stp 3 (pc' := 77) (l' := [some (.ref 10), none]) (st' := [.int (y0 + (nI 1))]) (fun _ => rfl) ?_
    cases hf; exact mEnds.rt (fun _ => rfl)
def C_count (x1 : Int32) (s : sg) : Option Int32 :=
  if x1 = nI 0 then
    some (s 23 3)
  else
    if x1 = nI 1 then
      (midx (nI 0) 2).bind fun j1 =>
      if s 20 j1 = 0 then
        C_count_62 (nI 0) s
      else
        C_count_62 (nI 1) s
    else
      if x1 = nI 2 then
        some (s 27 1)
      else
        if x1 = nI 3 then
          (S_isThere 133 s).bind fun v1 =>
          if v1 = 0 then
            some (-4)
          else
            some (s 133 1)
        else
          if x1 = nI 4 then
            (C_sumOf 13 6 (s 11 0) s).bind fun v2 =>
            some v2
          else
            if x1 = nI 5 then
              (C_sumOf 17 5 ((s 11 0) - (nI 1)) s).bind fun v3 =>
              some v3
            else
              some (-1)
set_option maxRecDepth 100000 in
theorem ok_C_count {x1 : Int32} {s : sg} {rv : Int32} (hf : C_count x1 s = some rv) : mEnds [] 1 104 (0, [some (.ref 10), some (.int x1)], [], hp shC s, 0, 0) (some (.int rv), hp shC s, 0, 0) := by
  unfold C_count at hf
  refine mEnds.stp 1 (pc' := 1) (l' := [some (.ref 10), some (.int x1)]) (st' := [.int x1]) (fun _ => rfl) ?_
  by_cases hc1 : x1 = nI 0
  · rw [if_pos hc1] at hf
    refine t_sw hc1 (fun _ _ _ => rfl) (t := 40) ?_
    refine mEnds.stp 1 (pc' := 41) (l' := [some (.ref 10), some (.int x1)]) (st' := [.ref 10]) (fun _ => rfl) ?_
    refine t_gr (rfl : mfetch 104 41 = some (41, .getfield 36, 3, 4, 5, 0)) rfl rfl ?_
    refine t_gi (rfl : mfetch 104 44 = some (44, .getfield 74, 3, 0, 3, 0)) rfl rfl ?_
    cases hf; exact mEnds.rt (fun _ => rfl)
  · rw [if_neg hc1] at hf
    by_cases hc2 : x1 = nI 1
    · rw [if_pos hc2] at hf
      refine t_sw hc2 (fun _ _ _ => rfl) (t := 48) ?_
      refine mEnds.stp 1 (pc' := 49) (l' := [some (.ref 10), some (.int x1)]) (st' := [.ref 10]) (fun _ => rfl) ?_
      refine t_gr (rfl : mfetch 104 49 = some (49, .getfield 20, 3, 4, 2, 0)) rfl rfl ?_
      refine mEnds.stp 1 (pc' := 53) (l' := [some (.ref 10), some (.int x1)]) (st' := [.int (nI 0), .ref 20]) (fun _ => rfl) ?_
      obtain ⟨j1, hj1, hf⟩ := ob hf
      refine t_ba (rfl : mfetch 104 53 = some (53, .baload, 1, 0, 0, 0)) rfl rfl rfl hj1 ?_
      by_cases hc3 : s 20 j1 = 0
      · rw [if_pos hc3] at hf
        refine t_jT (t := 61) (rfl : mfetch 104 54 = some (54, .ifCond .eq 7, 3, 0, 0, 0)) rfl (k_eq hc3) ?_
        refine mEnds.stp 1 (pc' := 62) (l' := [some (.ref 10), some (.int x1)]) (st' := [.int (nI 0)]) (fun _ => rfl) ?_
        refine mEnds.cut (l := [some (.ref 10), none]) ⟨rfl, trivial⟩ ?_
        exact ok_C_count_62 hf
      · rw [if_neg hc3] at hf
        refine t_jF (rfl : mfetch 104 54 = some (54, .ifCond .eq 7, 3, 0, 0, 0)) (k_eq' hc3) ?_
        refine mEnds.stp 2 (pc' := 62) (l' := [some (.ref 10), some (.int x1)]) (st' := [.int (nI 1)]) (fun _ => rfl) ?_
        refine mEnds.cut (l := [some (.ref 10), none]) ⟨rfl, trivial⟩ ?_
        exact ok_C_count_62 hf
    · rw [if_neg hc2] at hf
      by_cases hc4 : x1 = nI 2
      · rw [if_pos hc4] at hf
        refine t_sw hc4 (fun _ _ _ => rfl) (t := 78) ?_
        refine mEnds.stp 1 (pc' := 79) (l' := [some (.ref 10), some (.int x1)]) (st' := [.ref 10]) (fun _ => rfl) ?_
        refine t_gr (rfl : mfetch 104 79 = some (79, .getfield 43, 3, 4, 6, 0)) rfl rfl ?_
        refine t_gi (rfl : mfetch 104 82 = some (82, .getfield 56, 3, 3, 1, 0)) rfl rfl ?_
        cases hf; exact mEnds.rt (fun _ => rfl)
      · rw [if_neg hc4] at hf
        by_cases hc5 : x1 = nI 3
        · rw [if_pos hc5] at hf
          refine t_sw hc5 (fun _ _ _ => rfl) (t := 86) ?_
          refine mEnds.stp 1 (pc' := 87) (l' := [some (.ref 10), some (.int x1)]) (st' := [.ref 10]) (fun _ => rfl) ?_
          refine t_gr (rfl : mfetch 104 87 = some (87, .getfield 29, 3, 4, 4, 0)) rfl rfl ?_
          refine mEnds.stp 1 (pc' := 91) (l' := [some (.ref 10), some (.int x1)]) (st' := [.int (nI 0), .ref 22]) (fun _ => rfl) ?_
          refine t_aa (j := 0) (rfl : mfetch 104 91 = some (91, .aaload, 1, 0, 0, 0)) rfl rfl rfl rfl rfl ?_
          obtain ⟨v1, hv1, hf⟩ := ob hf
          refine t_cv (as := []) (st := []) (rfl : mfetch 104 92 = some (92, .invokevirtual 275, 3, 30, 0, 0)) rfl rfl rfl rfl rfl (ok_S_isThere (isS_at (j := 0) (by decide)) hv1) ?_
          by_cases hc6 : v1 = 0
          · rw [if_pos hc6] at hf
            refine t_jT (t := 110) (rfl : mfetch 104 95 = some (95, .ifCond .eq 15, 3, 0, 0, 0)) rfl (k_eq hc6) ?_
            refine mEnds.stp 1 (pc' := 112) (l' := [some (.ref 10), some (.int x1)]) (st' := [.int (-4)]) (fun _ => rfl) ?_
            cases hf; exact mEnds.rt (fun _ => rfl)
          · rw [if_neg hc6] at hf
            refine t_jF (rfl : mfetch 104 95 = some (95, .ifCond .eq 15, 3, 0, 0, 0)) (k_eq' hc6) ?_
            refine mEnds.stp 1 (pc' := 99) (l' := [some (.ref 10), some (.int x1)]) (st' := [.ref 10]) (fun _ => rfl) ?_
            refine t_gr (rfl : mfetch 104 99 = some (99, .getfield 29, 3, 4, 4, 0)) rfl rfl ?_
            refine mEnds.stp 1 (pc' := 103) (l' := [some (.ref 10), some (.int x1)]) (st' := [.int (nI 0), .ref 22]) (fun _ => rfl) ?_
            refine t_aa (j := 0) (rfl : mfetch 104 103 = some (103, .aaload, 1, 0, 0, 0)) rfl rfl rfl rfl rfl ?_
            refine t_gi (rfl : mfetch 104 104 = some (104, .getfield 278, 3, 2, 1, 0)) rfl rfl ?_
            refine mEnds.stp 1 (pc' := 112) (l' := [some (.ref 10), some (.int x1)]) (st' := [.int (s 133 1)]) (fun _ => rfl) ?_
            cases hf; exact mEnds.rt (fun _ => rfl)
        · rw [if_neg hc5] at hf
          by_cases hc7 : x1 = nI 4
          · rw [if_pos hc7] at hf
            refine t_sw hc7 (fun _ _ _ => rfl) (t := 113) ?_
            refine mEnds.stp 1 (pc' := 114) (l' := [some (.ref 10), some (.int x1)]) (st' := [.ref 10]) (fun _ => rfl) ?_
            refine t_gr (rfl : mfetch 104 114 = some (114, .getfield 10, 3, 4, 0, 0)) rfl rfl ?_
            refine t_gr (rfl : mfetch 104 117 = some (117, .getfield 112, 3, 1, 6, 0)) rfl rfl ?_
            refine mEnds.stp 1 (pc' := 121) (l' := [some (.ref 10), some (.int x1)]) (st' := [.ref 10, .ref 13]) (fun _ => rfl) ?_
            refine t_gr (rfl : mfetch 104 121 = some (121, .getfield 10, 3, 4, 0, 0)) rfl rfl ?_
            refine t_gi (rfl : mfetch 104 124 = some (124, .getfield 83, 3, 1, 0, 0)) rfl rfl ?_
            obtain ⟨v2, hv2, hf⟩ := ob hf
            refine t_cs (as := [.ref 13, .int (s 11 0)]) (st := []) (Or.inl rfl) (rfl : mfetch 104 127 = some (127, .invokestatic 279, 3, 106, 0, 0)) rfl rfl rfl (ok_C_sumOf rfl rfl hv2) ?_
            cases hf; exact mEnds.rt (fun _ => rfl)
          · rw [if_neg hc7] at hf
            by_cases hc8 : x1 = nI 5
            · rw [if_pos hc8] at hf
              refine t_sw hc8 (fun _ _ _ => rfl) (t := 131) ?_
              refine mEnds.stp 1 (pc' := 132) (l' := [some (.ref 10), some (.int x1)]) (st' := [.ref 10]) (fun _ => rfl) ?_
              refine t_gr (rfl : mfetch 104 132 = some (132, .getfield 10, 3, 4, 0, 0)) rfl rfl ?_
              refine t_gr (rfl : mfetch 104 135 = some (135, .getfield 144, 3, 1, 10, 0)) rfl rfl ?_
              refine mEnds.stp 1 (pc' := 139) (l' := [some (.ref 10), some (.int x1)]) (st' := [.ref 10, .ref 17]) (fun _ => rfl) ?_
              refine t_gr (rfl : mfetch 104 139 = some (139, .getfield 10, 3, 4, 0, 0)) rfl rfl ?_
              refine t_gi (rfl : mfetch 104 142 = some (142, .getfield 83, 3, 1, 0, 0)) rfl rfl ?_
              refine mEnds.stp 2 (pc' := 147) (l' := [some (.ref 10), some (.int x1)]) (st' := [.int ((s 11 0) - (nI 1)), .ref 17]) (fun _ => rfl) ?_
              obtain ⟨v3, hv3, hf⟩ := ob hf
              refine t_cs (as := [.ref 17, .int ((s 11 0) - (nI 1))]) (st := []) (Or.inl rfl) (rfl : mfetch 104 147 = some (147, .invokestatic 279, 3, 106, 0, 0)) rfl rfl rfl (ok_C_sumOf rfl rfl hv3) ?_
              cases hf; exact mEnds.rt (fun _ => rfl)
            · rw [if_neg hc8] at hf
              refine t_swD (t := 151) (rfl : mfetch 104 1 = some (1, .tableswitch 150 0 5 #[39, 47, 77, 85, 112, 130], 39, 0, 0, 0)) rfl (sw_out (fun k hk => match k, hk with | 0, _ => hc1 | 1, _ => hc2 | 2, _ => hc4 | 3, _ => hc5 | 4, _ => hc7 | 5, _ => hc8 | k + 6, hk => absurd hk (by omega))) ?_
              refine mEnds.stp 1 (pc' := 152) (l' := [some (.ref 10), some (.int x1)]) (st' := [.int (-1)]) (fun _ => rfl) ?_
              cases hf; exact mEnds.rt (fun _ => rfl)
end Q30i
