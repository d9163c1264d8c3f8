def C_spare_43 (x1 : Int32) (x2 : Int32) (x3 : Int32) : Nat → Int32 → Int32 → Int32 → sg → Option (Int32 × sg)
  | 0, _, _, _, _ => none
  | fu + 1, x4, x5, x6, s =>
  if x6 < s 11 0 then
    (H_hasTongue 11 x6 s).bind fun v2 =>
    if v2 = 0 then
      C_spare_43 x1 x2 x3 fu x4 x5 (x6 + (nI 1)) s
    else
      (C_copyOfNow s).bind fun s1 =>
      (H_takeTongue 53 x6 s1).bind fun s2 =>
      (H_burntAllWarm 53 x1 x2 s2).bind fun v5 =>
      if v5.1 = (-4) then
        C_spare_43 x1 x2 x3 fu x4 x5 (x6 + (nI 1)) v5.2
      else
        if v5.1 < x5 then
          C_spare_43 x1 x2 x3 fu x6 v5.1 (x6 + (nI 1)) v5.2
        else
          C_spare_43 x1 x2 x3 fu x4 x5 (x6 + (nI 1)) v5.2
  else
    (C_chosen x4 x5 x3 s).bind fun v1 =>
    some (v1, s)
set_option maxRecDepth 100000 in
theorem ok_C_spare_43 {x1 : Int32} {x2 : Int32} {x3 : Int32} : ∀ (fu : Nat) (x4 : Int32) (x5 : Int32) (x6 : Int32) (s : sg) (rv : (Int32 × sg)), C_spare_43 x1 x2 x3 fu x4 x5 x6 s = some rv → mEnds [] 5 80 (43, [some (.ref 10), some (.int x1), some (.int x2), some (.int x3), some (.int x4), some (.int x5), some (.int x6), none, none], [], hp shC s, 0, 0) (some (.int rv.1), hp shC rv.2, 0, 0)
  | 0, _, _, _, _, _, hf => by cases hf
  | fu + 1, x4, x5, x6, s, rv, hf => by
    rw [C_spare_43] at hf
    refine mEnds.stp 2 (pc' := 46) (l' := [some (.ref 10), some (.int x1), some (.int x2), some (.int x3), some (.int x4), some (.int x5), some (.int x6), none, none]) (st' := [.ref 10, .int x6]) (fun _ => rfl) ?_
    refine t_gr (rfl : mfetch 80 46 = some (46, .getfield 10, 3, 4, 0, 0)) rfl rfl ?_
    refine t_gi (rfl : mfetch 80 49 = some (49, .getfield 83, 3, 1, 0, 0)) rfl rfl ?_
    by_cases hc1 : x6 < s 11 0
    · rw [if_pos hc1] at hf
      refine t_cF (rfl : mfetch 80 52 = some (52, .if_icmp .ge 68, 3, 0, 0, 0)) (k_ge' hc1) ?_
      refine mEnds.stp 1 (pc' := 56) (l' := [some (.ref 10), some (.int x1), some (.int x2), some (.int x3), some (.int x4), some (.int x5), some (.int x6), none, none]) (st' := [.ref 10]) (fun _ => rfl) ?_
      refine t_gr (rfl : mfetch 80 56 = some (56, .getfield 10, 3, 4, 0, 0)) rfl rfl ?_
      refine mEnds.stp 1 (pc' := 61) (l' := [some (.ref 10), some (.int x1), some (.int x2), some (.int x3), some (.int x4), some (.int x5), some (.int x6), none, none]) (st' := [.int x6, .ref 11]) (fun _ => rfl) ?_
      obtain ⟨v2, hv2, hf⟩ := ob hf
      refine t_cv (as := [.int x6]) (st := []) (rfl : mfetch 80 61 = some (61, .invokevirtual 121, 3, 10, 0, 0)) rfl rfl rfl rfl rfl ((ok_H_hasTongue isH_11 hv2).deep 4) ?_
      by_cases hc2 : v2 = 0
      · rw [if_pos hc2] at hf
        refine t_jF (rfl : mfetch 80 64 = some (64, .ifCond .ne 6, 3, 0, 0, 0)) (k_ne' hc2) ?_
        refine mEnds.stp 3 (pc' := 43) (l' := [some (.ref 10), some (.int x1), some (.int x2), some (.int x3), some (.int x4), some (.int x5), some (.int (x6 + (nI 1))), none, none]) (st' := []) (fun _ => rfl) ?_
        refine mEnds.cut (l := [some (.ref 10), some (.int x1), some (.int x2), some (.int x3), some (.int x4), some (.int x5), some (.int (x6 + (nI 1))), none, none]) ⟨rfl, ⟨rfl, ⟨rfl, ⟨rfl, ⟨rfl, ⟨rfl, ⟨rfl, trivial⟩⟩⟩⟩⟩⟩⟩ ?_
        exact ok_C_spare_43 fu x4 x5 (x6 + (nI 1)) s _ hf
      · rw [if_neg hc2] at hf
        refine t_jT (t := 70) (rfl : mfetch 80 64 = some (64, .ifCond .ne 6, 3, 0, 0, 0)) rfl (k_ne hc2) ?_
        refine mEnds.stp 1 (pc' := 71) (l' := [some (.ref 10), some (.int x1), some (.int x2), some (.int x3), some (.int x4), some (.int x5), some (.int x6), none, none]) (st' := [.ref 10]) (fun _ => rfl) ?_
        obtain ⟨s1, hs1, hf⟩ := ob hf
        refine t_cv (as := []) (st := []) (rfl : mfetch 80 71 = some (71, .invokevirtual 167, 3, 109, 0, 0)) rfl rfl rfl rfl rfl ((ok_C_copyOfNow hs1).deep 3) ?_
        refine mEnds.stp 3 (pc' := 80) (l' := [some (.ref 10), some (.int x1), some (.int x2), some (.int x3), some (.int x4), some (.int x5), some (.int x6), some (.ref 53), none]) (st' := [.int x6, .ref 53]) (fun _ => rfl) ?_
        obtain ⟨s2, hs2, hf⟩ := ob hf
        refine t_cv (as := [.int x6]) (st := []) (rfl : mfetch 80 80 = some (80, .invokevirtual 154, 3, 20, 0, 0)) rfl rfl rfl rfl rfl ((ok_H_takeTongue isH_53 hs2).deep 4) ?_
        refine mEnds.stp 3 (pc' := 87) (l' := [some (.ref 10), some (.int x1), some (.int x2), some (.int x3), some (.int x4), some (.int x5), some (.int x6), some (.ref 53), none]) (st' := [.int x2, .int x1, .ref 53]) (fun _ => rfl) ?_
        obtain ⟨v5, hv5, hf⟩ := ob hf
        refine t_cv (as := [.int x1, .int x2]) (st := []) (rfl : mfetch 80 87 = some (87, .invokevirtual 197, 3, 28, 0, 0)) rfl rfl rfl rfl rfl (ok_H_burntAllWarm isH_53 hv5) ?_
        refine mEnds.stp 3 (pc' := 96) (l' := [some (.ref 10), some (.int x1), some (.int x2), some (.int x3), some (.int x4), some (.int x5), some (.int x6), some (.ref 53), some (.int v5.1)]) (st' := [.int (-4), .int v5.1]) (fun _ => rfl) ?_
        by_cases hc3 : v5.1 = (-4)
        · rw [if_pos hc3] at hf
          refine t_cT (t := 114) (rfl : mfetch 80 96 = some (96, .if_icmp .eq 18, 3, 0, 0, 0)) rfl (k_eq hc3) ?_
          refine mEnds.stp 2 (pc' := 43) (l' := [some (.ref 10), some (.int x1), some (.int x2), some (.int x3), some (.int x4), some (.int x5), some (.int (x6 + (nI 1))), some (.ref 53), some (.int v5.1)]) (st' := []) (fun _ => rfl) ?_
          refine mEnds.cut (l := [some (.ref 10), some (.int x1), some (.int x2), some (.int x3), some (.int x4), some (.int x5), some (.int (x6 + (nI 1))), none, none]) ⟨rfl, ⟨rfl, ⟨rfl, ⟨rfl, ⟨rfl, ⟨rfl, ⟨rfl, trivial⟩⟩⟩⟩⟩⟩⟩ ?_
          exact ok_C_spare_43 fu x4 x5 (x6 + (nI 1)) v5.2 _ hf
        · rw [if_neg hc3] at hf
          refine t_cF (rfl : mfetch 80 96 = some (96, .if_icmp .eq 18, 3, 0, 0, 0)) (k_eq' hc3) ?_
          refine mEnds.stp 2 (pc' := 103) (l' := [some (.ref 10), some (.int x1), some (.int x2), some (.int x3), some (.int x4), some (.int x5), some (.int x6), some (.ref 53), some (.int v5.1)]) (st' := [.int x5, .int v5.1]) (fun _ => rfl) ?_
          by_cases hc4 : v5.1 < x5
          · rw [if_pos hc4] at hf
            refine t_cF (rfl : mfetch 80 103 = some (103, .if_icmp .ge 11, 3, 0, 0, 0)) (k_ge' hc4) ?_
            refine mEnds.stp 6 (pc' := 43) (l' := [some (.ref 10), some (.int x1), some (.int x2), some (.int x3), some (.int x6), some (.int v5.1), some (.int (x6 + (nI 1))), some (.ref 53), some (.int v5.1)]) (st' := []) (fun _ => rfl) ?_
            refine mEnds.cut (l := [some (.ref 10), some (.int x1), some (.int x2), some (.int x3), some (.int x6), some (.int v5.1), some (.int (x6 + (nI 1))), none, none]) ⟨rfl, ⟨rfl, ⟨rfl, ⟨rfl, ⟨rfl, ⟨rfl, ⟨rfl, trivial⟩⟩⟩⟩⟩⟩⟩ ?_
            exact ok_C_spare_43 fu x6 v5.1 (x6 + (nI 1)) v5.2 _ hf
          · rw [if_neg hc4] at hf
            refine t_cT (t := 114) (rfl : mfetch 80 103 = some (103, .if_icmp .ge 11, 3, 0, 0, 0)) rfl (k_ge hc4) ?_
            refine mEnds.stp 2 (pc' := 43) (l' := [some (.ref 10), some (.int x1), some (.int x2), some (.int x3), some (.int x4), some (.int x5), some (.int (x6 + (nI 1))), some (.ref 53), some (.int v5.1)]) (st' := []) (fun _ => rfl) ?_
            refine mEnds.cut (l := [some (.ref 10), some (.int x1), some (.int x2), some (.int x3), some (.int x4), some (.int x5), some (.int (x6 + (nI 1))), none, none]) ⟨rfl, ⟨rfl, ⟨rfl, ⟨rfl, ⟨rfl, ⟨rfl, ⟨rfl, trivial⟩⟩⟩⟩⟩⟩⟩ ?_
            exact ok_C_spare_43 fu x4 x5 (x6 + (nI 1)) v5.2 _ hf
    · rw [if_neg hc1] at hf
      refine t_cT (t := 120) (rfl : mfetch 80 52 = some (52, .if_icmp .ge 68, 3, 0, 0, 0)) rfl (k_ge hc1) ?_
      refine mEnds.stp 3 (pc' := 125) (l' := [some (.ref 10), some (.int x1), some (.int x2), some (.int x3), some (.int x4), some (.int x5), some (.int x6), none, none]) (st' := [.int x3, .int x5, .int x4]) (fun _ => rfl) ?_
      obtain ⟨v1, hv1, hf⟩ := ob hf
      refine t_cs (as := [.int x4, .int x5, .int x3]) (st := []) (Or.inl rfl) (rfl : mfetch 80 125 = some (125, .invokestatic 189, 3, 108, 0, 0)) rfl rfl rfl ((ok_C_chosen hv1).deep 4) ?_
      exact mEnds.rti (Option.some.inj hf) (fun _ => rfl)
def C_spare (x1 : Int32) (x2 : Int32) (x3 : Int32) (s : sg) : Option (Int32 × sg) :=
  (C_within x1 (nI 0) (nI 60) s).bind fun v1 =>
  if v1 = 0 then
    some ((-1), s)
  else
    (C_within x2 (nI 0) (nI 99) s).bind fun v2 =>
    if v2 = 0 then
      some ((-1), s)
    else
      (C_within x3 (nI 0) (nI 1) s).bind fun v3 =>
      if v3 = 0 then
        some ((-1), s)
      else
        C_spare_43 x1 x2 x3 FU (-4) (nI 10000) (nI 0) s
set_option maxRecDepth 100000 in
theorem ok_C_spare {x1 : Int32} {x2 : Int32} {x3 : Int32} {s : sg} {rv : (Int32 × sg)} (hf : C_spare x1 x2 x3 s = some rv) : mEnds [] 5 80 (0, [some (.ref 10), some (.int x1), some (.int x2), some (.int x3), none, none, none, none, none], [], hp shC s, 0, 0) (some (.int rv.1), hp shC rv.2, 0, 0) := by
  unfold C_spare at hf
  refine mEnds.stp 3 (pc' := 4) (l' := [some (.ref 10), some (.int x1), some (.int x2), some (.int x3), none, none, none, none, none]) (st' := [.int (nI 60), .int (nI 0), .int x1]) (fun _ => rfl) ?_
  obtain ⟨v1, hv1, hf⟩ := ob hf
  refine t_cs (as := [.int x1, .int (nI 0), .int (nI 60)]) (st := []) (Or.inl rfl) (rfl : mfetch 80 4 = some (4, .invokestatic 48, 3, 105, 0, 0)) rfl rfl rfl ((ok_C_within hv1).deep 4) ?_
  by_cases hc1 : v1 = 0
  · rw [if_pos hc1] at hf
    refine t_jT (t := 29) (rfl : mfetch 80 7 = some (7, .ifCond .eq 22, 3, 0, 0, 0)) rfl (k_eq hc1) ?_
    refine mEnds.stp 1 (pc' := 30) (l' := [some (.ref 10), some (.int x1), some (.int x2), some (.int x3), none, none, none, none, none]) (st' := [.int (-1)]) (fun _ => rfl) ?_
    exact mEnds.rti (Option.some.inj hf) (fun _ => rfl)
  · rw [if_neg hc1] at hf
    refine t_jF (rfl : mfetch 80 7 = some (7, .ifCond .eq 22, 3, 0, 0, 0)) (k_eq' hc1) ?_
    refine mEnds.stp 3 (pc' := 14) (l' := [some (.ref 10), some (.int x1), some (.int x2), some (.int x3), none, none, none, none, none]) (st' := [.int (nI 99), .int (nI 0), .int x2]) (fun _ => rfl) ?_
    obtain ⟨v2, hv2, hf⟩ := ob hf
    refine t_cs (as := [.int x2, .int (nI 0), .int (nI 99)]) (st := []) (Or.inl rfl) (rfl : mfetch 80 14 = some (14, .invokestatic 48, 3, 105, 0, 0)) rfl rfl rfl ((ok_C_within hv2).deep 4) ?_
    by_cases hc2 : v2 = 0
    · rw [if_pos hc2] at hf
      refine t_jT (t := 29) (rfl : mfetch 80 17 = some (17, .ifCond .eq 12, 3, 0, 0, 0)) rfl (k_eq hc2) ?_
      refine mEnds.stp 1 (pc' := 30) (l' := [some (.ref 10), some (.int x1), some (.int x2), some (.int x3), none, none, none, none, none]) (st' := [.int (-1)]) (fun _ => rfl) ?_
      exact mEnds.rti (Option.some.inj hf) (fun _ => rfl)
    · rw [if_neg hc2] at hf
      refine t_jF (rfl : mfetch 80 17 = some (17, .ifCond .eq 12, 3, 0, 0, 0)) (k_eq' hc2) ?_
      refine mEnds.stp 3 (pc' := 23) (l' := [some (.ref 10), some (.int x1), some (.int x2), some (.int x3), none, none, none, none, none]) (st' := [.int (nI 1), .int (nI 0), .int x3]) (fun _ => rfl) ?_
      obtain ⟨v3, hv3, hf⟩ := ob hf
      refine t_cs (as := [.int x3, .int (nI 0), .int (nI 1)]) (st := []) (Or.inl rfl) (rfl : mfetch 80 23 = some (23, .invokestatic 48, 3, 105, 0, 0)) rfl rfl rfl ((ok_C_within hv3).deep 4) ?_
      by_cases hc3 : v3 = 0
      · rw [if_pos hc3] at hf
        refine t_jF (rfl : mfetch 80 26 = some (26, .ifCond .ne 5, 3, 0, 0, 0)) (k_ne' hc3) ?_
        refine mEnds.stp 1 (pc' := 30) (l' := [some (.ref 10), some (.int x1), some (.int x2), some (.int x3), none, none, none, none, none]) (st' := [.int (-1)]) (fun _ => rfl) ?_
        exact mEnds.rti (Option.some.inj hf) (fun _ => rfl)
      · rw [if_neg hc3] at hf
        refine t_jT (t := 31) (rfl : mfetch 80 26 = some (26, .ifCond .ne 5, 3, 0, 0, 0)) rfl (k_ne hc3) ?_
        refine mEnds.stp 6 (pc' := 43) (l' := [some (.ref 10), some (.int x1), some (.int x2), some (.int x3), some (.int (-4)), some (.int (nI 10000)), some (.int (nI 0)), none, none]) (st' := []) (fun _ => rfl) ?_
        refine mEnds.cut (l := [some (.ref 10), some (.int x1), some (.int x2), some (.int x3), some (.int (-4)), some (.int (nI 10000)), some (.int (nI 0)), none, none]) ⟨rfl, ⟨rfl, ⟨rfl, ⟨rfl, ⟨rfl, ⟨rfl, ⟨rfl, trivial⟩⟩⟩⟩⟩⟩⟩ ?_
        exact ok_C_spare_43 FU (-4) (nI 10000) (nI 0) s _ hf
def C_fuseIsAsTold (x0 : Int32) (x1 : Int32) (x2 : Int32) (s : sg) : Option Int32 :=
  (C_within x0 (nI 0) (nI 10) s).bind fun v1 =>
  if v1 = 0 then
    some (nI 0)
  else
    (C_within x1 (nI 0) (nI 8) s).bind fun v2 =>
    if v2 = 0 then
      some (nI 0)
    else
      (C_within x2 (nI 0) (nI 1) s).bind fun v3 =>
      if v3 = 0 then
        some (nI 0)
      else
        some (nI 1)
set_option maxRecDepth 100000 in
theorem ok_C_fuseIsAsTold {x0 : Int32} {x1 : Int32} {x2 : Int32} {s : sg} {rv : Int32} (hf : C_fuseIsAsTold x0 x1 x2 s = some rv) : mEnds [] 1 83 (0, [some (.int x0), some (.int x1), some (.int x2)], [], hp shC s, 0, 0) (some (.int rv), hp shC s, 0, 0) := by
  unfold C_fuseIsAsTold at hf
  refine mEnds.stp 3 (pc' := 4) (l' := [some (.int x0), some (.int x1), some (.int x2)]) (st' := [.int (nI 10), .int (nI 0), .int x0]) (fun _ => rfl) ?_
  obtain ⟨v1, hv1, hf⟩ := ob hf
  refine t_cs (as := [.int x0, .int (nI 0), .int (nI 10)]) (st := []) (Or.inl rfl) (rfl : mfetch 83 4 = some (4, .invokestatic 48, 3, 105, 0, 0)) rfl rfl rfl (ok_C_within hv1) ?_
  by_cases hc1 : v1 = 0
  · rw [if_pos hc1] at hf
    refine t_jT (t := 33) (rfl : mfetch 83 7 = some (7, .ifCond .eq 26, 3, 0, 0, 0)) rfl (k_eq hc1) ?_
    refine mEnds.stp 1 (pc' := 34) (l' := [some (.int x0), some (.int x1), some (.int x2)]) (st' := [.int (nI 0)]) (fun _ => rfl) ?_
    cases hf; exact mEnds.rt (fun _ => rfl)
  · rw [if_neg hc1] at hf
    refine t_jF (rfl : mfetch 83 7 = some (7, .ifCond .eq 26, 3, 0, 0, 0)) (k_eq' hc1) ?_
    refine mEnds.stp 3 (pc' := 14) (l' := [some (.int x0), some (.int x1), some (.int x2)]) (st' := [.int (nI 8), .int (nI 0), .int x1]) (fun _ => rfl) ?_
    obtain ⟨v2, hv2, hf⟩ := ob hf
    refine t_cs (as := [.int x1, .int (nI 0), .int (nI 8)]) (st := []) (Or.inl rfl) (rfl : mfetch 83 14 = some (14, .invokestatic 48, 3, 105, 0, 0)) rfl rfl rfl (ok_C_within hv2) ?_
    by_cases hc2 : v2 = 0
    · rw [if_pos hc2] at hf
      refine t_jT (t := 33) (rfl : mfetch 83 17 = some (17, .ifCond .eq 16, 3, 0, 0, 0)) rfl (k_eq hc2) ?_
      refine mEnds.stp 1 (pc' := 34) (l' := [some (.int x0), some (.int x1), some (.int x2)]) (st' := [.int (nI 0)]) (fun _ => rfl) ?_
      cases hf; exact mEnds.rt (fun _ => rfl)
    · rw [if_neg hc2] at hf
      refine t_jF (rfl : mfetch 83 17 = some (17, .ifCond .eq 16, 3, 0, 0, 0)) (k_eq' hc2) ?_
      refine mEnds.stp 3 (pc' := 23) (l' := [some (.int x0), some (.int x1), some (.int x2)]) (st' := [.int (nI 1), .int (nI 0), .int x2]) (fun _ => rfl) ?_
      obtain ⟨v3, hv3, hf⟩ := ob hf
      refine t_cs (as := [.int x2, .int (nI 0), .int (nI 1)]) (st := []) (Or.inl rfl) (rfl : mfetch 83 23 = some (23, .invokestatic 48, 3, 105, 0, 0)) rfl rfl rfl (ok_C_within hv3) ?_
      by_cases hc3 : v3 = 0
      · rw [if_pos hc3] at hf
        refine t_jT (t := 33) (rfl : mfetch 83 26 = some (26, .ifCond .eq 7, 3, 0, 0, 0)) rfl (k_eq hc3) ?_
        refine mEnds.stp 1 (pc' := 34) (l' := [some (.int x0), some (.int x1), some (.int x2)]) (st' := [.int (nI 0)]) (fun _ => rfl) ?_
        cases hf; exact mEnds.rt (fun _ => rfl)
      · rw [if_neg hc3] at hf
        refine t_jF (rfl : mfetch 83 26 = some (26, .ifCond .eq 7, 3, 0, 0, 0)) (k_eq' hc3) ?_
        refine mEnds.stp 2 (pc' := 34) (l' := [some (.int x0), some (.int x1), some (.int x2)]) (st' := [.int (nI 1)]) (fun _ => rfl) ?_
        cases hf; exact mEnds.rt (fun _ => rfl)
def C_outcome (b : Nat) (x2 : Int32) (x3 : Int32) (s : sg) : Option Int32 :=
  (H_hasRoom b x2 s).bind fun v1 =>
  if v1 = 0 then
    some ((s b 3) - (s 11 3))
  else
    (midx x2 6).bind fun j1 =>
    if s (b + 1) j1 < x3 then
      some (nI 0)
    else
      some (nI 1)
set_option maxRecDepth 100000 in
theorem ok_C_outcome {b : Nat} {x2 : Int32} {x3 : Int32} (hb : isH b) {s : sg} {rv : Int32} (hf : C_outcome b x2 x3 s = some rv) : mEnds [] 1 85 (0, [some (.ref 10), some (.ref b), some (.int x2), some (.int x3)], [], hp shC s, 0, 0) (some (.int rv), hp shC s, 0, 0) := by
  unfold C_outcome at hf
  refine mEnds.stp 2 (pc' := 2) (l' := [some (.ref 10), some (.ref b), some (.int x2), some (.int x3)]) (st' := [.int x2, .ref b]) (fun _ => rfl) ?_
  obtain ⟨v1, hv1, hf⟩ := ob hf
  refine t_cv (as := [.int x2]) (st := []) (rfl : mfetch 85 2 = some (2, .invokevirtual 105, 3, 8, 0, 0)) hb.1 rfl rfl rfl rfl (ok_H_hasRoom hb hv1) ?_
  by_cases hc1 : v1 = 0
  · rw [if_pos hc1] at hf
    refine t_jF (rfl : mfetch 85 5 = some (5, .ifCond .ne 16, 3, 0, 0, 0)) (k_ne' hc1) ?_
    refine mEnds.stp 1 (pc' := 9) (l' := [some (.ref 10), some (.ref b), some (.int x2), some (.int x3)]) (st' := [.ref b]) (fun _ => rfl) ?_
    refine t_gi (rfl : mfetch 85 9 = some (9, .getfield 89, 3, 1, 3, 0)) hb.1 rfl ?_
    refine mEnds.stp 1 (pc' := 13) (l' := [some (.ref 10), some (.ref b), some (.int x2), some (.int x3)]) (st' := [.ref 10, .int (s b 3)]) (fun _ => rfl) ?_
    refine t_gr (rfl : mfetch 85 13 = some (13, .getfield 10, 3, 4, 0, 0)) rfl rfl ?_
    refine t_gi (rfl : mfetch 85 16 = some (16, .getfield 89, 3, 1, 3, 0)) rfl rfl ?_
    refine mEnds.stp 1 (pc' := 20) (l' := [some (.ref 10), some (.ref b), some (.int x2), some (.int x3)]) (st' := [.int ((s b 3) - (s 11 3))]) (fun _ => rfl) ?_
    cases hf; exact mEnds.rt (fun _ => rfl)
  · rw [if_neg hc1] at hf
    refine t_jT (t := 21) (rfl : mfetch 85 5 = some (5, .ifCond .ne 16, 3, 0, 0, 0)) rfl (k_ne hc1) ?_
    refine mEnds.stp 1 (pc' := 22) (l' := [some (.ref 10), some (.ref b), some (.int x2), some (.int x3)]) (st' := [.ref b]) (fun _ => rfl) ?_
    refine t_gr (rfl : mfetch 85 22 = some (22, .getfield 108, 3, 1, 5, 0)) hb.1 rfl ?_
    refine mEnds.stp 1 (pc' := 26) (l' := [some (.ref 10), some (.ref b), some (.int x2), some (.int x3)]) (st' := [.int x2, .ref (b + 1)]) (fun _ => rfl) ?_
    obtain ⟨j1, hj1, hf⟩ := ob hf
    refine t_ia (rfl : mfetch 85 26 = some (26, .iaload, 1, 0, 0, 0)) hb.2.1 (isH_le hb 1) hj1 ?_
    refine mEnds.stp 1 (pc' := 28) (l' := [some (.ref 10), some (.ref b), some (.int x2), some (.int x3)]) (st' := [.int x3, .int (s (b + 1) j1)]) (fun _ => rfl) ?_
    by_cases hc2 : s (b + 1) j1 < x3
    · rw [if_pos hc2] at hf
      refine t_cT (t := 35) (rfl : mfetch 85 28 = some (28, .if_icmp .lt 7, 3, 0, 0, 0)) rfl (k_lt hc2) ?_
      refine mEnds.stp 1 (pc' := 36) (l' := [some (.ref 10), some (.ref b), some (.int x2), some (.int x3)]) (st' := [.int (nI 0)]) (fun _ => rfl) ?_
      cases hf; exact mEnds.rt (fun _ => rfl)
    · rw [if_neg hc2] at hf
      refine t_cF (rfl : mfetch 85 28 = some (28, .if_icmp .lt 7, 3, 0, 0, 0)) (k_lt' hc2) ?_
      refine mEnds.stp 2 (pc' := 36) (l' := [some (.ref 10), some (.ref b), some (.int x2), some (.int x3)]) (st' := [.int (nI 1)]) (fun _ => rfl) ?_
      cases hf; exact mEnds.rt (fun _ => rfl)
def C_weighed_21 (kr : Int32 → Int32 → Int32 → Int32 → Int32 → sg → Option (Int64 × sg)) (x4 : Int32) (x5 : Int32) (x6 : Nat) (s : sg) : Option (Int64 × sg) :=
  (C_outcome x6 x4 x5 s).bind fun v1 =>
  some (v1.toInt64, s)
set_option maxRecDepth 100000 in
theorem ok_C_weighed_21 {kr : Int32 → Int32 → Int32 → Int32 → Int32 → sg → Option (Int64 × sg)} {D : Nat} (hD : 3 ≤ D) (hkr : ∀ (x1 : Int32) (x2 : Int32) (x3 : Int32) (x4 : Int32) (x5 : Int32) (s : sg) (rv : (Int64 × sg)), kr x1 x2 x3 x4 x5 s = some rv → mEnds [] D 84 (0, [some (.ref 10), some (.int x1), some (.int x2), some (.int x3), some (.int x4), some (.int x5), none, none, none, none, none, none], [], hp shC s, 0, 0) (some (.long rv.1), hp shC rv.2, 0, 0)) {x4 : Int32} {x5 : Int32} {x6 : Nat} (hx6 : isH x6) {s : sg} {rv : (Int64 × sg)} (hf : C_weighed_21 kr x4 x5 x6 s = some rv) : mEnds [] (D + 1) 84 (21, [some (.ref 10), none, none, none, some (.int x4), some (.int x5), some (.ref x6), none, none, none, none, none], [], hp shC s, 0, 0) (some (.long rv.1), hp shC rv.2, 0, 0) := by
  unfold C_weighed_21 at hf
  refine mEnds.stp 4 (pc' := 28) (l' := [some (.ref 10), none, none, none, some (.int x4), some (.int x5), some (.ref x6), none, none, none, none, none]) (st' := [.int x5, .int x4, .ref x6, .ref 10]) (fun _ => rfl) ?_
  obtain ⟨v1, hv1, hf⟩ := ob hf
  refine t_cv (as := [.ref x6, .int x4, .int x5]) (st := []) (rfl : mfetch 84 28 = some (28, .invokevirtual 217, 3, 85, 0, 0)) rfl rfl rfl rfl rfl ((ok_C_outcome hx6 hv1).le (Nat.le_trans (by decide : 1 ≤ 3) hD)) ?_
  refine mEnds.stp 1 (pc' := 32) (l' := [some (.ref 10), none, none, none, some (.int x4), some (.int x5), some (.ref x6), none, none, none, none, none]) (st' := [.long v1.toInt64]) (fun _ => rfl) ?_
  exact mEnds.rtl (Option.some.inj hf) (fun _ => rfl)
def C_weighed_101 (kr : Int32 → Int32 → Int32 → Int32 → Int32 → sg → Option (Int64 × sg)) (k39 : Int64 → Int32 → sg → Option (Int64 × sg)) (x1 : Int32) (x2 : Int32) (x3 : Int32) (x4 : Int32) (x5 : Int32) (x6 : Nat) (x7 : Int64) (x9 : Int32) (x10 : Int32) (y0 : Int32) (y1 : Int32) (y2 : Nat) (s : sg) : Option (Int64 × sg) :=
  (H_passHourBy y2 y1 y0 s).bind fun s1 =>
  (kr (x1 + (nI 1)) x2 x3 x4 x5 s1).bind fun v2 =>
  k39 (x7 + (x10.toInt64 * v2.1)) (x9 + (nI 1)) v2.2
set_option maxRecDepth 100000 in
theorem ok_C_weighed_101 {kr : Int32 → Int32 → Int32 → Int32 → Int32 → sg → Option (Int64 × sg)} {D : Nat} (hD : 3 ≤ D) (hkr : ∀ (x1 : Int32) (x2 : Int32) (x3 : Int32) (x4 : Int32) (x5 : Int32) (s : sg) (rv : (Int64 × sg)), kr x1 x2 x3 x4 x5 s = some rv → mEnds [] D 84 (0, [some (.ref 10), some (.int x1), some (.int x2), some (.int x3), some (.int x4), some (.int x5), none, none, none, none, none, none], [], hp shC s, 0, 0) (some (.long rv.1), hp shC rv.2, 0, 0)) {k39 : Int64 → Int32 → sg → Option (Int64 × sg)} {x1 : Int32} {x2 : Int32} {x3 : Int32} {x4 : Int32} {x5 : Int32} {x6 : Nat} {x7 : Int64} {x9 : Int32} {x10 : Int32} {y0 : Int32} {y1 : Int32} {y2 : Nat} (hx6 : isH x6) (hy2 : isH y2) {s : sg} {rv : (Int64 × sg)} (hk39 : ∀ (x7 : Int64) (x9 : Int32) (s : sg) (rv : (Int64 × sg)), k39 x7 x9 s = some rv → mEnds [] (D + 1) 84 (39, [some (.ref 10), some (.int x1), some (.int x2), some (.int x3), some (.int x4), some (.int x5), some (.ref x6), some (.long x7), none, some (.int x9), none, none], [], hp shC s, 0, 0) (some (.long rv.1), hp shC rv.2, 0, 0)) (hf : C_weighed_101 kr k39 x1 x2 x3 x4 x5 x6 x7 x9 x10 y0 y1 y2 s = some rv) : mEnds [] (D + 1) 84 (101, [some (.ref 10), some (.int x1), some (.int x2), some (.int x3), some (.int x4), some (.int x5), some (.ref x6), some (.long x7), none, some (.int x9), some (.int x10), none], [.int y0, .int y1, .ref y2], hp shC s, 0, 0) (some (.long rv.1), hp shC rv.2, 0, 0) := by
  unfold C_weighed_101 at hf
  obtain ⟨s1, hs1, hf⟩ := ob hf
  refine t_cv (as := [.int y1, .int y0]) (st := []) (rfl : mfetch 84 101 = some (101, .invokevirtual 221, 3, 24, 0, 0)) hy2.1 rfl rfl rfl rfl ((ok_H_passHourBy hy2 hs1).le (Nat.le_trans (by decide : 2 ≤ 3) hD)) ?_
  refine mEnds.stp 11 (pc' := 119) (l' := [some (.ref 10), some (.int x1), some (.int x2), some (.int x3), some (.int x4), some (.int x5), some (.ref x6), some (.long x7), none, some (.int x9), some (.int x10), none]) (st' := [.int x5, .int x4, .int x3, .int x2, .int (x1 + (nI 1)), .ref 10, .long x10.toInt64, .long x7]) (fun _ => rfl) ?_
  obtain ⟨v2, hv2, hf⟩ := ob hf
  refine t_cv (as := [.int (x1 + (nI 1)), .int x2, .int x3, .int x4, .int x5]) (st := [.long x10.toInt64, .long x7]) (rfl : mfetch 84 119 = some (119, .invokevirtual 205, 3, 84, 0, 0)) rfl rfl rfl rfl rfl (hkr (x1 + (nI 1)) x2 x3 x4 x5 s1 _ hv2) ?_
  refine mEnds.stp 5 (pc' := 39) (l' := [some (.ref 10), some (.int x1), some (.int x2), some (.int x3), some (.int x4), some (.int x5), some (.ref x6), some (.long (x7 + (x10.toInt64 * v2.1))), none, some (.int (x9 + (nI 1))), some (.int x10), none]) (st' := []) (fun _ => rfl) ?_
  refine mEnds.cut (l := [some (.ref 10), some (.int x1), some (.int x2), some (.int x3), some (.int x4), some (.int x5), some (.ref x6), some (.long (x7 + (x10.toInt64 * v2.1))), none, some (.int (x9 + (nI 1))), none, none]) ⟨rfl, ⟨rfl, ⟨rfl, ⟨rfl, ⟨rfl, ⟨rfl, ⟨rfl, ⟨rfl, ⟨rfl, trivial⟩⟩⟩⟩⟩⟩⟩⟩⟩ ?_
  exact hk39 (x7 + (x10.toInt64 * v2.1)) (x9 + (nI 1)) v2.2 _ hf
def C_weighed_59 (kr : Int32 → Int32 → Int32 → Int32 → Int32 → sg → Option (Int64 × sg)) (k39 : Int64 → Int32 → sg → Option (Int64 × sg)) (x1 : Int32) (x2 : Int32) (x3 : Int32) (x4 : Int32) (x5 : Int32) (x6 : Nat) (x7 : Int64) (x9 : Int32) (y0 : Int32) (s : sg) : Option (Int64 × sg) :=
  if 0 < y0 then
    (midx (x1 + (nI 1)) 10).bind fun j1 =>
    (H_copyFrom (53 + 8 * j1) x6 s).bind fun s1 =>
    (H_skyNow (53 + 8 * j1) s1).bind fun v2 =>
    if x9 = nI 1 then
      C_weighed_101 kr k39 x1 x2 x3 x4 x5 x6 x7 x9 y0 (nI 1) v2 (53 + 8 * j1) s1
    else
      C_weighed_101 kr k39 x1 x2 x3 x4 x5 x6 x7 x9 y0 (nI 0) v2 (53 + 8 * j1) s1
  else
    k39 x7 (x9 + (nI 1)) s
set_option maxRecDepth 100000 in
theorem ok_C_weighed_59 {kr : Int32 → Int32 → Int32 → Int32 → Int32 → sg → Option (Int64 × sg)} {D : Nat} (hD : 3 ≤ D) (hkr : ∀ (x1 : Int32) (x2 : Int32) (x3 : Int32) (x4 : Int32) (x5 : Int32) (s : sg) (rv : (Int64 × sg)), kr x1 x2 x3 x4 x5 s = some rv → mEnds [] D 84 (0, [some (.ref 10), some (.int x1), some (.int x2), some (.int x3), some (.int x4), some (.int x5), none, none, none, none, none, none], [], hp shC s, 0, 0) (some (.long rv.1), hp shC rv.2, 0, 0)) {k39 : Int64 → Int32 → sg → Option (Int64 × sg)} {x1 : Int32} {x2 : Int32} {x3 : Int32} {x4 : Int32} {x5 : Int32} {x6 : Nat} {x7 : Int64} {x9 : Int32} {y0 : Int32} (hx6 : isH x6) {s : sg} {rv : (Int64 × sg)} (hk39 : ∀ (x7 : Int64) (x9 : Int32) (s : sg) (rv : (Int64 × sg)), k39 x7 x9 s = some rv → mEnds [] (D + 1) 84 (39, [some (.ref 10), some (.int x1), some (.int x2), some (.int x3), some (.int x4), some (.int x5), some (.ref x6), some (.long x7), none, some (.int x9), none, none], [], hp shC s, 0, 0) (some (.long rv.1), hp shC rv.2, 0, 0)) (hf : C_weighed_59 kr k39 x1 x2 x3 x4 x5 x6 x7 x9 y0 s = some rv) : mEnds [] (D + 1) 84 (59, [some (.ref 10), some (.int x1), some (.int x2), some (.int x3), some (.int x4), some (.int x5), some (.ref x6), some (.long x7), none, some (.int x9), none, none], [.int y0], hp shC s, 0, 0) (some (.long rv.1), hp shC rv.2, 0, 0) := by
  unfold C_weighed_59 at hf
  refine mEnds.stp 2 (pc' := 63) (l' := [some (.ref 10), some (.int x1), some (.int x2), some (.int x3), some (.int x4), some (.int x5), some (.ref x6), some (.long x7), none, some (.int x9), some (.int y0), none]) (st' := [.int y0]) (fun _ => rfl) ?_
  by_cases hc1 : 0 < y0
  · rw [if_pos hc1] at hf
    refine t_jF (rfl : mfetch 84 63 = some (63, .ifCond .le 63, 3, 0, 0, 0)) (k_le' hc1) ?_
    refine mEnds.stp 1 (pc' := 67) (l' := [some (.ref 10), some (.int x1), some (.int x2), some (.int x3), some (.int x4), some (.int x5), some (.ref x6), some (.long x7), none, some (.int x9), some (.int y0), none]) (st' := [.ref 10]) (fun _ => rfl) ?_
    refine t_gr (rfl : mfetch 84 67 = some (67, .getfield 24, 3, 4, 3, 0)) rfl rfl ?_
    refine mEnds.stp 3 (pc' := 73) (l' := [some (.ref 10), some (.int x1), some (.int x2), some (.int x3), some (.int x4), some (.int x5), some (.ref x6), some (.long x7), none, some (.int x9), some (.int y0), none]) (st' := [.int (x1 + (nI 1)), .ref 21]) (fun _ => rfl) ?_
    obtain ⟨j1, hj1, hf⟩ := ob hf
    refine t_aa (rfl : mfetch 84 73 = some (73, .aaload, 1, 0, 0, 0)) rfl rfl rfl hj1 (el_tr (mi_lt hj1)) ?_
    refine mEnds.stp 3 (pc' := 80) (l' := [some (.ref 10), some (.int x1), some (.int x2), some (.int x3), some (.int x4), some (.int x5), some (.ref x6), some (.long x7), none, some (.int x9), some (.int y0), some (.ref (53 + 8 * j1))]) (st' := [.ref x6, .ref (53 + 8 * j1)]) (fun _ => rfl) ?_
    obtain ⟨s1, hs1, hf⟩ := ob hf
    refine t_cv (as := [.ref x6]) (st := []) (rfl : mfetch 84 80 = some (80, .invokevirtual 70, 3, 7, 0, 0)) (isH_tr (mi_lt hj1)).1 rfl rfl rfl rfl ((ok_H_copyFrom (isH_tr (mi_lt hj1)) hx6 hs1).le (Nat.le_trans (by decide : 0 ≤ 3) hD)) ?_
    refine mEnds.stp 2 (pc' := 87) (l' := [some (.ref 10), some (.int x1), some (.int x2), some (.int x3), some (.int x4), some (.int x5), some (.ref x6), some (.long x7), none, some (.int x9), some (.int y0), some (.ref (53 + 8 * j1))]) (st' := [.ref (53 + 8 * j1), .ref (53 + 8 * j1)]) (fun _ => rfl) ?_
    obtain ⟨v2, hv2, hf⟩ := ob hf
    refine t_cv (as := []) (st := [.ref (53 + 8 * j1)]) (rfl : mfetch 84 87 = some (87, .invokevirtual 102, 3, 14, 0, 0)) (isH_tr (mi_lt hj1)).1 rfl rfl rfl rfl ((ok_H_skyNow (isH_tr (mi_lt hj1)) hv2).le (Nat.le_trans (by decide : 0 ≤ 3) hD)) ?_
    refine mEnds.stp 2 (pc' := 93) (l' := [some (.ref 10), some (.int x1), some (.int x2), some (.int x3), some (.int x4), some (.int x5), some (.ref x6), some (.long x7), none, some (.int x9), some (.int y0), some (.ref (53 + 8 * j1))]) (st' := [.int (nI 1), .int x9, .int v2, .ref (53 + 8 * j1)]) (fun _ => rfl) ?_
    by_cases hc2 : x9 = nI 1
    · rw [if_pos hc2] at hf
      refine t_cF (rfl : mfetch 84 93 = some (93, .if_icmp .ne 7, 3, 0, 0, 0)) (k_ne' hc2) ?_
      refine mEnds.stp 2 (pc' := 101) (l' := [some (.ref 10), some (.int x1), some (.int x2), some (.int x3), some (.int x4), some (.int x5), some (.ref x6), some (.long x7), none, some (.int x9), some (.int y0), some (.ref (53 + 8 * j1))]) (st' := [.int (nI 1), .int v2, .ref (53 + 8 * j1)]) (fun _ => rfl) ?_
      refine mEnds.cut (l := [some (.ref 10), some (.int x1), some (.int x2), some (.int x3), some (.int x4), some (.int x5), some (.ref x6), some (.long x7), none, some (.int x9), some (.int y0), none]) ⟨rfl, ⟨rfl, ⟨rfl, ⟨rfl, ⟨rfl, ⟨rfl, ⟨rfl, ⟨rfl, ⟨rfl, ⟨rfl, trivial⟩⟩⟩⟩⟩⟩⟩⟩⟩⟩ ?_
      exact ok_C_weighed_101 hD hkr hx6 (isH_tr (mi_lt hj1)) hk39 hf
    · rw [if_neg hc2] at hf
      refine t_cT (t := 100) (rfl : mfetch 84 93 = some (93, .if_icmp .ne 7, 3, 0, 0, 0)) rfl (k_ne hc2) ?_
      refine mEnds.stp 1 (pc' := 101) (l' := [some (.ref 10), some (.int x1), some (.int x2), some (.int x3), some (.int x4), some (.int x5), some (.ref x6), some (.long x7), none, some (.int x9), some (.int y0), some (.ref (53 + 8 * j1))]) (st' := [.int (nI 0), .int v2, .ref (53 + 8 * j1)]) (fun _ => rfl) ?_
      refine mEnds.cut (l := [some (.ref 10), some (.int x1), some (.int x2), some (.int x3), some (.int x4), some (.int x5), some (.ref x6), some (.long x7), none, some (.int x9), some (.int y0), none]) ⟨rfl, ⟨rfl, ⟨rfl, ⟨rfl, ⟨rfl, ⟨rfl, ⟨rfl, ⟨rfl, ⟨rfl, ⟨rfl, trivial⟩⟩⟩⟩⟩⟩⟩⟩⟩⟩ ?_
      exact ok_C_weighed_101 hD hkr hx6 (isH_tr (mi_lt hj1)) hk39 hf
  · rw [if_neg hc1] at hf
    refine t_jT (t := 126) (rfl : mfetch 84 63 = some (63, .ifCond .le 63, 3, 0, 0, 0)) rfl (k_le hc1) ?_
    refine mEnds.stp 2 (pc' := 39) (l' := [some (.ref 10), some (.int x1), some (.int x2), some (.int x3), some (.int x4), some (.int x5), some (.ref x6), some (.long x7), none, some (.int (x9 + (nI 1))), some (.int y0), none]) (st' := []) (fun _ => rfl) ?_
    refine mEnds.cut (l := [some (.ref 10), some (.int x1), some (.int x2), some (.int x3), some (.int x4), some (.int x5), some (.ref x6), some (.long x7), none, some (.int (x9 + (nI 1))), none, none]) ⟨rfl, ⟨rfl, ⟨rfl, ⟨rfl, ⟨rfl, ⟨rfl, ⟨rfl, ⟨rfl, ⟨rfl, trivial⟩⟩⟩⟩⟩⟩⟩⟩⟩ ?_
    exact hk39 x7 (x9 + (nI 1)) s _ hf
def C_weighed_39 (kr : Int32 → Int32 → Int32 → Int32 → Int32 → sg → Option (Int64 × sg)) (x1 : Int32) (x2 : Int32) (x3 : Int32) (x4 : Int32) (x5 : Int32) (x6 : Nat) : Nat → Int64 → Int32 → sg → Option (Int64 × sg)
  | 0, _, _, _ => none
  | fu + 1, x7, x9, s =>
  if nI 1 < x9 then
    some (x7, s)
  else
    if x9 = nI 1 then
      C_weighed_59 kr (C_weighed_39 kr x1 x2 x3 x4 x5 x6 fu) x1 x2 x3 x4 x5 x6 x7 x9 x3 s
    else
      C_weighed_59 kr (C_weighed_39 kr x1 x2 x3 x4 x5 x6 fu) x1 x2 x3 x4 x5 x6 x7 x9 ((nI 10) - x3) s
set_option maxRecDepth 100000 in
theorem ok_C_weighed_39 {kr : Int32 → Int32 → Int32 → Int32 → Int32 → sg → Option (Int64 × sg)} {D : Nat} (hD : 3 ≤ D) (hkr : ∀ (x1 : Int32) (x2 : Int32) (x3 : Int32) (x4 : Int32) (x5 : Int32) (s : sg) (rv : (Int64 × sg)), kr x1 x2 x3 x4 x5 s = some rv → mEnds [] D 84 (0, [some (.ref 10), some (.int x1), some (.int x2), some (.int x3), some (.int x4), some (.int x5), none, none, none, none, none, none], [], hp shC s, 0, 0) (some (.long rv.1), hp shC rv.2, 0, 0)) {x1 : Int32} {x2 : Int32} {x3 : Int32} {x4 : Int32} {x5 : Int32} {x6 : Nat} (hx6 : isH x6) : ∀ (fu : Nat) (x7 : Int64) (x9 : Int32) (s : sg) (rv : (Int64 × sg)), C_weighed_39 kr x1 x2 x3 x4 x5 x6 fu x7 x9 s = some rv → mEnds [] (D + 1) 84 (39, [some (.ref 10), some (.int x1), some (.int x2), some (.int x3), some (.int x4), some (.int x5), some (.ref x6), some (.long x7), none, some (.int x9), none, none], [], hp shC s, 0, 0) (some (.long rv.1), hp shC rv.2, 0, 0)
  | 0, _, _, _, _, hf => by cases hf
  | fu + 1, x7, x9, s, rv, hf => by
    rw [C_weighed_39] at hf
    refine mEnds.stp 2 (pc' := 42) (l' := [some (.ref 10), some (.int x1), some (.int x2), some (.int x3), some (.int x4), some (.int x5), some (.ref x6), some (.long x7), none, some (.int x9), none, none]) (st' := [.int (nI 1), .int x9]) (fun _ => rfl) ?_
    by_cases hc1 : nI 1 < x9
    · rw [if_pos hc1] at hf
      refine t_cT (t := 132) (rfl : mfetch 84 42 = some (42, .if_icmp .gt 90, 3, 0, 0, 0)) rfl (k_gt hc1) ?_
      refine mEnds.stp 1 (pc' := 134) (l' := [some (.ref 10), some (.int x1), some (.int x2), some (.int x3), some (.int x4), some (.int x5), some (.ref x6), some (.long x7), none, some (.int x9), none, none]) (st' := [.long x7]) (fun _ => rfl) ?_
      exact mEnds.rtl (Option.some.inj hf) (fun _ => rfl)
    · rw [if_neg hc1] at hf
      refine t_cF (rfl : mfetch 84 42 = some (42, .if_icmp .gt 90, 3, 0, 0, 0)) (k_gt' hc1) ?_
      refine mEnds.stp 2 (pc' := 48) (l' := [some (.ref 10), some (.int x1), some (.int x2), some (.int x3), some (.int x4), some (.int x5), some (.ref x6), some (.long x7), none, some (.int x9), none, none]) (st' := [.int (nI 1), .int x9]) (fun _ => rfl) ?_
      by_cases hc2 : x9 = nI 1
      · rw [if_pos hc2] at hf
        refine t_cF (rfl : mfetch 84 48 = some (48, .if_icmp .ne 7, 3, 0, 0, 0)) (k_ne' hc2) ?_
        refine mEnds.stp 2 (pc' := 59) (l' := [some (.ref 10), some (.int x1), some (.int x2), some (.int x3), some (.int x4), some (.int x5), some (.ref x6), some (.long x7), none, some (.int x9), none, none]) (st' := [.int x3]) (fun _ => rfl) ?_
        refine mEnds.cut (l := [some (.ref 10), some (.int x1), some (.int x2), some (.int x3), some (.int x4), some (.int x5), some (.ref x6), some (.long x7), none, some (.int x9), none, none]) ⟨rfl, ⟨rfl, ⟨rfl, ⟨rfl, ⟨rfl, ⟨rfl, ⟨rfl, ⟨rfl, ⟨rfl, trivial⟩⟩⟩⟩⟩⟩⟩⟩⟩ ?_
        exact ok_C_weighed_59 hD hkr hx6 (ok_C_weighed_39 hD hkr hx6 fu) hf
      · rw [if_neg hc2] at hf
        refine t_cT (t := 55) (rfl : mfetch 84 48 = some (48, .if_icmp .ne 7, 3, 0, 0, 0)) rfl (k_ne hc2) ?_
        refine mEnds.stp 3 (pc' := 59) (l' := [some (.ref 10), some (.int x1), some (.int x2), some (.int x3), some (.int x4), some (.int x5), some (.ref x6), some (.long x7), none, some (.int x9), none, none]) (st' := [.int ((nI 10) - x3)]) (fun _ => rfl) ?_
        refine mEnds.cut (l := [some (.ref 10), some (.int x1), some (.int x2), some (.int x3), some (.int x4), some (.int x5), some (.ref x6), some (.long x7), none, some (.int x9), none, none]) ⟨rfl, ⟨rfl, ⟨rfl, ⟨rfl, ⟨rfl, ⟨rfl, ⟨rfl, ⟨rfl, ⟨rfl, trivial⟩⟩⟩⟩⟩⟩⟩⟩⟩ ?_
        exact ok_C_weighed_59 hD hkr hx6 (ok_C_weighed_39 hD hkr hx6 fu) hf
def C_weighed : Nat → Int32 → Int32 → Int32 → Int32 → Int32 → sg → Option (Int64 × sg)
  | 0, _, _, _, _, _, _ => none
  | dp + 1, x1, x2, x3, x4, x5, s =>
  (midx x1 10).bind fun j1 =>
  if x1 < x2 then
    if x1 + (nI 1) < nI 10 then
      C_weighed_39 (C_weighed dp) x1 x2 x3 x4 x5 (53 + 8 * j1) FU (0 : Int64) (nI 0) s
    else
      C_weighed_21 (C_weighed dp) x4 x5 (53 + 8 * j1) s
  else
    C_weighed_21 (C_weighed dp) x4 x5 (53 + 8 * j1) s
set_option maxRecDepth 100000 in
theorem ok_C_weighed : ∀ (dp : Nat) (x1 : Int32) (x2 : Int32) (x3 : Int32) (x4 : Int32) (x5 : Int32) (s : sg) (rv : (Int64 × sg)), C_weighed dp x1 x2 x3 x4 x5 s = some rv → mEnds [] (3 + dp) 84 (0, [some (.ref 10), some (.int x1), some (.int x2), some (.int x3), some (.int x4), some (.int x5), none, none, none, none, none, none], [], hp shC s, 0, 0) (some (.long rv.1), hp shC rv.2, 0, 0)
  | 0, _, _, _, _, _, _, _, hf => by cases hf
  | dp + 1, x1, x2, x3, x4, x5, s, rv, hf => by
    have hD : 3 ≤ 3 + dp := Nat.le_add_right _ _
    have hkr := ok_C_weighed dp
    show mEnds [] (3 + dp + 1) 84 _ _
    rw [C_weighed] at hf
    refine mEnds.stp 1 (pc' := 1) (l' := [some (.ref 10), some (.int x1), some (.int x2), some (.int x3), some (.int x4), some (.int x5), none, none, none, none, none, none]) (st' := [.ref 10]) (fun _ => rfl) ?_
    refine t_gr (rfl : mfetch 84 1 = some (1, .getfield 24, 3, 4, 3, 0)) rfl rfl ?_
    refine mEnds.stp 1 (pc' := 5) (l' := [some (.ref 10), some (.int x1), some (.int x2), some (.int x3), some (.int x4), some (.int x5), none, none, none, none, none, none]) (st' := [.int x1, .ref 21]) (fun _ => rfl) ?_
    obtain ⟨j1, hj1, hf⟩ := ob hf
    refine t_aa (rfl : mfetch 84 5 = some (5, .aaload, 1, 0, 0, 0)) rfl rfl rfl hj1 (el_tr (mi_lt hj1)) ?_
    refine mEnds.stp 3 (pc' := 10) (l' := [some (.ref 10), some (.int x1), some (.int x2), some (.int x3), some (.int x4), some (.int x5), some (.ref (53 + 8 * j1)), none, none, none, none, none]) (st' := [.int x2, .int x1]) (fun _ => rfl) ?_
    by_cases hc1 : x1 < x2
    · rw [if_pos hc1] at hf
      refine t_cF (rfl : mfetch 84 10 = some (10, .if_icmp .ge 11, 3, 0, 0, 0)) (k_ge' hc1) ?_
      refine mEnds.stp 4 (pc' := 18) (l' := [some (.ref 10), some (.int x1), some (.int x2), some (.int x3), some (.int x4), some (.int x5), some (.ref (53 + 8 * j1)), none, none, none, none, none]) (st' := [.int (nI 10), .int (x1 + (nI 1))]) (fun _ => rfl) ?_
      by_cases hc2 : x1 + (nI 1) < nI 10
      · rw [if_pos hc2] at hf
        refine t_cT (t := 33) (rfl : mfetch 84 18 = some (18, .if_icmp .lt 15, 3, 0, 0, 0)) rfl (k_lt hc2) ?_
        refine mEnds.stp 4 (pc' := 39) (l' := [some (.ref 10), some (.int x1), some (.int x2), some (.int x3), some (.int x4), some (.int x5), some (.ref (53 + 8 * j1)), some (.long (0 : Int64)), none, some (.int (nI 0)), none, none]) (st' := []) (fun _ => rfl) ?_
        refine mEnds.cut (l := [some (.ref 10), some (.int x1), some (.int x2), some (.int x3), some (.int x4), some (.int x5), some (.ref (53 + 8 * j1)), some (.long (0 : Int64)), none, some (.int (nI 0)), none, none]) ⟨rfl, ⟨rfl, ⟨rfl, ⟨rfl, ⟨rfl, ⟨rfl, ⟨rfl, ⟨rfl, ⟨rfl, trivial⟩⟩⟩⟩⟩⟩⟩⟩⟩ ?_
        exact ok_C_weighed_39 hD hkr (isH_tr (mi_lt hj1)) FU (0 : Int64) (nI 0) s _ hf
      · rw [if_neg hc2] at hf
        refine t_cF (rfl : mfetch 84 18 = some (18, .if_icmp .lt 15, 3, 0, 0, 0)) (k_lt' hc2) ?_
        refine mEnds.cut (l := [some (.ref 10), none, none, none, some (.int x4), some (.int x5), some (.ref (53 + 8 * j1)), none, none, none, none, none]) ⟨rfl, ⟨rfl, ⟨rfl, ⟨rfl, trivial⟩⟩⟩⟩ ?_
        exact ok_C_weighed_21 hD hkr (isH_tr (mi_lt hj1)) hf
    · rw [if_neg hc1] at hf
      refine t_cT (t := 21) (rfl : mfetch 84 10 = some (10, .if_icmp .ge 11, 3, 0, 0, 0)) rfl (k_ge hc1) ?_
      refine mEnds.cut (l := [some (.ref 10), none, none, none, some (.int x4), some (.int x5), some (.ref (53 + 8 * j1)), none, none, none, none, none]) ⟨rfl, ⟨rfl, ⟨rfl, ⟨rfl, trivial⟩⟩⟩⟩ ?_
      exact ok_C_weighed_21 hD hkr (isH_tr (mi_lt hj1)) hf
def C_tenTo_4 (x0 : Int32) (s : sg) : Nat → Int64 → Int32 → Option Int64
  | 0, _, _ => none
  | fu + 1, x1, x3 =>
  if x3 < x0 then
    C_tenTo_4 x0 s fu (x1 * (10 : Int64)) (x3 + (nI 1))
  else
    some x1
set_option maxRecDepth 100000 in
theorem ok_C_tenTo_4 {x0 : Int32} {s : sg} : ∀ (fu : Nat) (x1 : Int64) (x3 : Int32) (rv : Int64), C_tenTo_4 x0 s fu x1 x3 = some rv → mEnds [] 0 86 (4, [some (.int x0), some (.long x1), none, some (.int x3)], [], hp shC s, 0, 0) (some (.long rv), hp shC s, 0, 0)
  | 0, _, _, _, hf => by cases hf
  | fu + 1, x1, x3, rv, hf => by
    rw [C_tenTo_4] at hf
    refine mEnds.stp 2 (pc' := 6) (l' := [some (.int x0), some (.long x1), none, some (.int x3)]) (st' := [.int x0, .int x3]) (fun _ => rfl) ?_
    by_cases hc1 : x3 < x0
    · rw [if_pos hc1] at hf
      refine t_cF (rfl : mfetch 86 6 = some (6, .if_icmp .ge 15, 3, 0, 0, 0)) (k_ge' hc1) ?_
      refine mEnds.stp 6 (pc' := 4) (l' := [some (.int x0), some (.long (x1 * (10 : Int64))), none, some (.int (x3 + (nI 1)))]) (st' := []) (fun _ => rfl) ?_
      refine mEnds.cut (l := [some (.int x0), some (.long (x1 * (10 : Int64))), none, some (.int (x3 + (nI 1)))]) ⟨rfl, ⟨rfl, ⟨rfl, trivial⟩⟩⟩ ?_
      exact ok_C_tenTo_4 fu (x1 * (10 : Int64)) (x3 + (nI 1)) _ hf
    · rw [if_neg hc1] at hf
      refine t_cT (t := 21) (rfl : mfetch 86 6 = some (6, .if_icmp .ge 15, 3, 0, 0, 0)) rfl (k_ge hc1) ?_
      refine mEnds.stp 1 (pc' := 22) (l' := [some (.int x0), some (.long x1), none, some (.int x3)]) (st' := [.long x1]) (fun _ => rfl) ?_
      cases hf; exact mEnds.rt (fun _ => rfl)
def C_tenTo (x0 : Int32) (s : sg) : Option Int64 :=
  C_tenTo_4 x0 s FU (1 : Int64) (nI 0)
set_option maxRecDepth 100000 in
theorem ok_C_tenTo {x0 : Int32} {s : sg} {rv : Int64} (hf : C_tenTo x0 s = some rv) : mEnds [] 0 86 (0, [some (.int x0), none, none, none], [], hp shC s, 0, 0) (some (.long rv), hp shC s, 0, 0) := by
  unfold C_tenTo at hf
  refine mEnds.stp 4 (pc' := 4) (l' := [some (.int x0), some (.long (1 : Int64)), none, some (.int (nI 0))]) (st' := []) (fun _ => rfl) ?_
  refine mEnds.cut (l := [some (.int x0), some (.long (1 : Int64)), none, some (.int (nI 0))]) ⟨rfl, ⟨rfl, ⟨rfl, trivial⟩⟩⟩ ?_
  exact ok_C_tenTo_4 FU (1 : Int64) (nI 0) _ hf
def C_commonDivisor_33 (x0 : Int64) (s : sg) : Option Int64 :=
  some (if (1 : Int64) < x0 then x0 else (1 : Int64))
set_option maxRecDepth 100000 in
theorem ok_C_commonDivisor_33 {x0 : Int64} {s : sg} {rv : Int64} (hf : C_commonDivisor_33 x0 s = some rv) : mEnds [] 0 88 (33, [some (.long x0), none, none, none, none, none, none], [], hp shC s, 0, 0) (some (.long rv), hp shC s, 0, 0) := by
  unfold C_commonDivisor_33 at hf
  refine mEnds.stp 3 (pc' := 38) (l' := [some (.long x0), none, none, none, none, none, none]) (st' := [.long (if (1 : Int64) < x0 then x0 else (1 : Int64))]) (fun _ => rfl) ?_
  cases hf; exact mEnds.rt (fun _ => rfl)
def C_commonDivisor_3 (s : sg) : Nat → Int64 → Int64 → Int32 → Option Int64
  | 0, _, _, _ => none
  | fu + 1, x0, x2, x4 =>
  if x4 < nI 200 then
    if x2 = (0 : Int64) then
      C_commonDivisor_33 x0 s
    else
      if x2 = 0 then none else
        C_commonDivisor_3 s fu x2 (x0 - x0 / x2 * x2) (x4 + (nI 1))
  else
    C_commonDivisor_33 x0 s
set_option maxRecDepth 100000 in
theorem ok_C_commonDivisor_3 {s : sg} : ∀ (fu : Nat) (x0 : Int64) (x2 : Int64) (x4 : Int32) (rv : Int64), C_commonDivisor_3 s fu x0 x2 x4 = some rv → mEnds [] 0 88 (3, [some (.long x0), none, some (.long x2), none, some (.int x4), none, none], [], hp shC s, 0, 0) (some (.long rv), hp shC s, 0, 0)
  | 0, _, _, _, _, hf => by cases hf
  | fu + 1, x0, x2, x4, rv, hf => by
    rw [C_commonDivisor_3] at hf
    refine mEnds.stp 2 (pc' := 8) (l' := [some (.long x0), none, some (.long x2), none, some (.int x4), none, none]) (st' := [.int (nI 200), .int x4]) (fun _ => rfl) ?_
    by_cases hc1 : x4 < nI 200
    · rw [if_pos hc1] at hf
      refine t_cF (rfl : mfetch 88 8 = some (8, .if_icmp .ge 25, 3, 0, 0, 0)) (k_ge' hc1) ?_
      refine mEnds.stp 2 (pc' := 13) (l' := [some (.long x0), none, some (.long x2), none, some (.int x4), none, none]) (st' := [.long (0 : Int64), .long x2]) (fun _ => rfl) ?_
      refine mEnds.stp 1 (pc' := 14) (l' := [some (.long x0), none, some (.long x2), none, some (.int x4), none, none]) (st' := [.int (lg_cmp x2 (0 : Int64))]) (fun _ => rfl) ?_
      by_cases hc2 : x2 = (0 : Int64)
      · rw [if_pos hc2] at hf
        refine t_jT (t := 33) (rfl : mfetch 88 14 = some (14, .ifCond .eq 19, 3, 0, 0, 0)) rfl (l_eq hc2) ?_
        refine mEnds.cut (l := [some (.long x0), none, none, none, none, none, none]) ⟨rfl, trivial⟩ ?_
        exact ok_C_commonDivisor_33 hf
      · rw [if_neg hc2] at hf
        refine t_jF (rfl : mfetch 88 14 = some (14, .ifCond .eq 19, 3, 0, 0, 0)) (l_eq' hc2) ?_
        refine mEnds.stp 2 (pc' := 19) (l' := [some (.long x0), none, some (.long x2), none, some (.int x4), none, none]) (st' := [.long x2, .long x0]) (fun _ => rfl) ?_
        by_cases hc3 : x2 = 0
        · rw [if_pos hc3] at hf; cases hf
        · rw [if_neg hc3] at hf
          refine t_lr (rfl : mfetch 88 19 = some (19, .lrem, 1, 0, 0, 0)) hc3 ?_
          refine mEnds.stp 7 (pc' := 3) (l' := [some (.long x2), none, some (.long (x0 - x0 / x2 * x2)), none, some (.int (x4 + (nI 1))), some (.long (x0 - x0 / x2 * x2)), none]) (st' := []) (fun _ => rfl) ?_
          refine mEnds.cut (l := [some (.long x2), none, some (.long (x0 - x0 / x2 * x2)), none, some (.int (x4 + (nI 1))), none, none]) ⟨rfl, ⟨rfl, ⟨rfl, trivial⟩⟩⟩ ?_
          exact ok_C_commonDivisor_3 fu x2 (x0 - x0 / x2 * x2) (x4 + (nI 1)) _ hf
    · rw [if_neg hc1] at hf
      refine t_cT (t := 33) (rfl : mfetch 88 8 = some (8, .if_icmp .ge 25, 3, 0, 0, 0)) rfl (k_ge hc1) ?_
      refine mEnds.cut (l := [some (.long x0), none, none, none, none, none, none]) ⟨rfl, trivial⟩ ?_
      exact ok_C_commonDivisor_33 hf
def C_commonDivisor (x0 : Int64) (x2 : Int64) (s : sg) : Option Int64 :=
  C_commonDivisor_3 s FU x0 x2 (nI 0)
set_option maxRecDepth 100000 in
theorem ok_C_commonDivisor {x0 : Int64} {x2 : Int64} {s : sg} {rv : Int64} (hf : C_commonDivisor x0 x2 s = some rv) : mEnds [] 0 88 (0, [some (.long x0), none, some (.long x2), none, none, none, none], [], hp shC s, 0, 0) (some (.long rv), hp shC s, 0, 0) := by
  unfold C_commonDivisor at hf
  refine mEnds.stp 2 (pc' := 3) (l' := [some (.long x0), none, some (.long x2), none, some (.int (nI 0)), none, none]) (st' := []) (fun _ => rfl) ?_
  refine mEnds.cut (l := [some (.long x0), none, some (.long x2), none, some (.int (nI 0)), none, none]) ⟨rfl, ⟨rfl, ⟨rfl, trivial⟩⟩⟩ ?_
  exact ok_C_commonDivisor_3 FU x0 x2 (nI 0) _ hf
def C_ofFraction (x0 : Int64) (x2 : Int64) (x4 : Int32) (s : sg) : Option Int64 :=
  (C_commonDivisor x0 x2 s).bind fun v1 =>
  if x4 = 0 then
    if v1 = 0 then none else
      some (x0 / v1)
  else
    if v1 = 0 then none else
      some (x2 / v1)
set_option maxRecDepth 100000 in
theorem ok_C_ofFraction {x0 : Int64} {x2 : Int64} {x4 : Int32} {s : sg} {rv : Int64} (hf : C_ofFraction x0 x2 x4 s = some rv) : mEnds [] 1 87 (0, [some (.long x0), none, some (.long x2), none, some (.int x4), none, none], [], hp shC s, 0, 0) (some (.long rv), hp shC s, 0, 0) := by
  unfold C_ofFraction at hf
  refine mEnds.stp 2 (pc' := 2) (l' := [some (.long x0), none, some (.long x2), none, some (.int x4), none, none]) (st' := [.long x2, .long x0]) (fun _ => rfl) ?_
  obtain ⟨v1, hv1, hf⟩ := ob hf
  refine t_cs (as := [.long x0, .long x2]) (st := []) (Or.inl rfl) (rfl : mfetch 87 2 = some (2, .invokestatic 227, 3, 88, 0, 0)) rfl rfl rfl (ok_C_commonDivisor hv1) ?_
  refine mEnds.stp 2 (pc' := 9) (l' := [some (.long x0), none, some (.long x2), none, some (.int x4), some (.long v1), none]) (st' := [.int x4]) (fun _ => rfl) ?_
  by_cases hc1 : x4 = 0
  · rw [if_pos hc1] at hf
    refine t_jF (rfl : mfetch 87 9 = some (9, .ifCond .ne 10, 3, 0, 0, 0)) (k_ne' hc1) ?_
    refine mEnds.stp 2 (pc' := 15) (l' := [some (.long x0), none, some (.long x2), none, some (.int x4), some (.long v1), none]) (st' := [.long v1, .long x0]) (fun _ => rfl) ?_
    by_cases hc3 : v1 = 0
    · rw [if_pos hc3] at hf; cases hf
    · rw [if_neg hc3] at hf
      refine t_ld (rfl : mfetch 87 15 = some (15, .ldiv, 1, 0, 0, 0)) hc3 ?_
      refine mEnds.stp 1 (pc' := 23) (l' := [some (.long x0), none, some (.long x2), none, some (.int x4), some (.long v1), none]) (st' := [.long (x0 / v1)]) (fun _ => rfl) ?_
      cases hf; exact mEnds.rt (fun _ => rfl)
  · rw [if_neg hc1] at hf
    refine t_jT (t := 19) (rfl : mfetch 87 9 = some (9, .ifCond .ne 10, 3, 0, 0, 0)) rfl (k_ne hc1) ?_
    refine mEnds.stp 2 (pc' := 22) (l' := [some (.long x0), none, some (.long x2), none, some (.int x4), some (.long v1), none]) (st' := [.long v1, .long x2]) (fun _ => rfl) ?_
    by_cases hc2 : v1 = 0
    · rw [if_pos hc2] at hf; cases hf
    · rw [if_neg hc2] at hf
      refine t_ld (rfl : mfetch 87 22 = some (22, .ldiv, 1, 0, 0, 0)) hc2 ?_
      cases hf; exact mEnds.rt (fun _ => rfl)
def C_luck (x1 : Int32) (x2 : Int32) (x3 : Int32) (x4 : Int32) (x5 : Int32) (s : sg) : Option (Int64 × sg) :=
  (C_fuseIsAsTold x1 x3 x5 s).bind fun v1 =>
  if v1 = 0 then
    some ((-1 : Int64), s)
  else
    (H_hasRoom 11 x2 s).bind fun v2 =>
    if v2 = 0 then
      some ((-1 : Int64), s)
    else
      (C_within x4 (nI 0) (nI 99) s).bind fun v3 =>
      if v3 = 0 then
        some ((-1 : Int64), s)
      else
        (H_copyFrom 53 11 s).bind fun s1 =>
        (C_weighed 10 (nI 0) x3 x1 x2 x4 s1).bind fun v5 =>
        (C_tenTo x3 v5.2).bind fun v6 =>
        (C_ofFraction v5.1 v6 x5 v5.2).bind fun v7 =>
        some (v7, v5.2)
set_option maxRecDepth 100000 in
theorem ok_C_luck {x1 : Int32} {x2 : Int32} {x3 : Int32} {x4 : Int32} {x5 : Int32} {s : sg} {rv : (Int64 × sg)} (hf : C_luck x1 x2 x3 x4 x5 s = some rv) : mEnds [] 14 81 (0, [some (.ref 10), some (.int x1), some (.int x2), some (.int x3), some (.int x4), some (.int x5)], [], hp shC s, 0, 0) (some (.long rv.1), hp shC rv.2, 0, 0) := by
  unfold C_luck at hf
  refine mEnds.stp 3 (pc' := 4) (l' := [some (.ref 10), some (.int x1), some (.int x2), some (.int x3), some (.int x4), some (.int x5)]) (st' := [.int x5, .int x3, .int x1]) (fun _ => rfl) ?_
  obtain ⟨v1, hv1, hf⟩ := ob hf
  refine t_cs (as := [.int x1, .int x3, .int x5]) (st := []) (Or.inl rfl) (rfl : mfetch 81 4 = some (4, .invokestatic 200, 3, 83, 0, 0)) rfl rfl rfl ((ok_C_fuseIsAsTold hv1).deep 12) ?_
  by_cases hc1 : v1 = 0
  · rw [if_pos hc1] at hf
    refine t_jT (t := 32) (rfl : mfetch 81 7 = some (7, .ifCond .eq 25, 3, 0, 0, 0)) rfl (k_eq hc1) ?_
    refine mEnds.stp 1 (pc' := 35) (l' := [some (.ref 10), some (.int x1), some (.int x2), some (.int x3), some (.int x4), some (.int x5)]) (st' := [.long (-1 : Int64)]) (fun _ => rfl) ?_
    exact mEnds.rtl (Option.some.inj hf) (fun _ => rfl)
  · rw [if_neg hc1] at hf
    refine t_jF (rfl : mfetch 81 7 = some (7, .ifCond .eq 25, 3, 0, 0, 0)) (k_eq' hc1) ?_
    refine mEnds.stp 1 (pc' := 11) (l' := [some (.ref 10), some (.int x1), some (.int x2), some (.int x3), some (.int x4), some (.int x5)]) (st' := [.ref 10]) (fun _ => rfl) ?_
    refine t_gr (rfl : mfetch 81 11 = some (11, .getfield 10, 3, 4, 0, 0)) rfl rfl ?_
    refine mEnds.stp 1 (pc' := 15) (l' := [some (.ref 10), some (.int x1), some (.int x2), some (.int x3), some (.int x4), some (.int x5)]) (st' := [.int x2, .ref 11]) (fun _ => rfl) ?_
    obtain ⟨v2, hv2, hf⟩ := ob hf
    refine t_cv (as := [.int x2]) (st := []) (rfl : mfetch 81 15 = some (15, .invokevirtual 105, 3, 8, 0, 0)) rfl rfl rfl rfl rfl ((ok_H_hasRoom isH_11 hv2).deep 13) ?_
    by_cases hc2 : v2 = 0
    · rw [if_pos hc2] at hf
      refine t_jT (t := 32) (rfl : mfetch 81 18 = some (18, .ifCond .eq 14, 3, 0, 0, 0)) rfl (k_eq hc2) ?_
      refine mEnds.stp 1 (pc' := 35) (l' := [some (.ref 10), some (.int x1), some (.int x2), some (.int x3), some (.int x4), some (.int x5)]) (st' := [.long (-1 : Int64)]) (fun _ => rfl) ?_
      exact mEnds.rtl (Option.some.inj hf) (fun _ => rfl)
    · rw [if_neg hc2] at hf
      refine t_jF (rfl : mfetch 81 18 = some (18, .ifCond .eq 14, 3, 0, 0, 0)) (k_eq' hc2) ?_
      refine mEnds.stp 3 (pc' := 26) (l' := [some (.ref 10), some (.int x1), some (.int x2), some (.int x3), some (.int x4), some (.int x5)]) (st' := [.int (nI 99), .int (nI 0), .int x4]) (fun _ => rfl) ?_
      obtain ⟨v3, hv3, hf⟩ := ob hf
      refine t_cs (as := [.int x4, .int (nI 0), .int (nI 99)]) (st := []) (Or.inl rfl) (rfl : mfetch 81 26 = some (26, .invokestatic 48, 3, 105, 0, 0)) rfl rfl rfl ((ok_C_within hv3).deep 13) ?_
      by_cases hc3 : v3 = 0
      · rw [if_pos hc3] at hf
        refine t_jF (rfl : mfetch 81 29 = some (29, .ifCond .ne 7, 3, 0, 0, 0)) (k_ne' hc3) ?_
        refine mEnds.stp 1 (pc' := 35) (l' := [some (.ref 10), some (.int x1), some (.int x2), some (.int x3), some (.int x4), some (.int x5)]) (st' := [.long (-1 : Int64)]) (fun _ => rfl) ?_
        exact mEnds.rtl (Option.some.inj hf) (fun _ => rfl)
      · rw [if_neg hc3] at hf
        refine t_jT (t := 36) (rfl : mfetch 81 29 = some (29, .ifCond .ne 7, 3, 0, 0, 0)) rfl (k_ne hc3) ?_
        refine mEnds.stp 1 (pc' := 37) (l' := [some (.ref 10), some (.int x1), some (.int x2), some (.int x3), some (.int x4), some (.int x5)]) (st' := [.ref 10]) (fun _ => rfl) ?_
        refine t_gr (rfl : mfetch 81 37 = some (37, .getfield 24, 3, 4, 3, 0)) rfl rfl ?_
        refine mEnds.stp 1 (pc' := 41) (l' := [some (.ref 10), some (.int x1), some (.int x2), some (.int x3), some (.int x4), some (.int x5)]) (st' := [.int (nI 0), .ref 21]) (fun _ => rfl) ?_
        refine t_aa (j := 0) (rfl : mfetch 81 41 = some (41, .aaload, 1, 0, 0, 0)) rfl rfl rfl rfl rfl ?_
        refine mEnds.stp 1 (pc' := 43) (l' := [some (.ref 10), some (.int x1), some (.int x2), some (.int x3), some (.int x4), some (.int x5)]) (st' := [.ref 10, .ref 53]) (fun _ => rfl) ?_
        refine t_gr (rfl : mfetch 81 43 = some (43, .getfield 10, 3, 4, 0, 0)) rfl rfl ?_
        obtain ⟨s1, hs1, hf⟩ := ob hf
        refine t_cv (as := [.ref 11]) (st := []) (rfl : mfetch 81 46 = some (46, .invokevirtual 70, 3, 7, 0, 0)) rfl rfl rfl rfl rfl ((ok_H_copyFrom isH_53 isH_11 hs1).deep 13) ?_
        refine mEnds.stp 6 (pc' := 56) (l' := [some (.ref 10), some (.int x1), some (.int x2), some (.int x3), some (.int x4), some (.int x5)]) (st' := [.int x4, .int x2, .int x1, .int x3, .int (nI 0), .ref 10]) (fun _ => rfl) ?_
        obtain ⟨v5, hv5, hf⟩ := ob hf
        refine t_cv (as := [.int (nI 0), .int x3, .int x1, .int x2, .int x4]) (st := []) (rfl : mfetch 81 56 = some (56, .invokevirtual 205, 3, 84, 0, 0)) rfl rfl rfl rfl rfl (ok_C_weighed 10 (nI 0) x3 x1 x2 x4 s1 _ hv5) ?_
        refine mEnds.stp 1 (pc' := 60) (l' := [some (.ref 10), some (.int x1), some (.int x2), some (.int x3), some (.int x4), some (.int x5)]) (st' := [.int x3, .long v5.1]) (fun _ => rfl) ?_
        obtain ⟨v6, hv6, hf⟩ := ob hf
        refine t_cs (as := [.int x3]) (st := [.long v5.1]) (Or.inl rfl) (rfl : mfetch 81 60 = some (60, .invokestatic 209, 3, 86, 0, 0)) rfl rfl rfl ((ok_C_tenTo hv6).deep 13) ?_
        refine mEnds.stp 1 (pc' := 65) (l' := [some (.ref 10), some (.int x1), some (.int x2), some (.int x3), some (.int x4), some (.int x5)]) (st' := [.int x5, .long v6, .long v5.1]) (fun _ => rfl) ?_
        obtain ⟨v7, hv7, hf⟩ := ob hf
        refine t_cs (as := [.long v5.1, .long v6, .int x5]) (st := []) (Or.inl rfl) (rfl : mfetch 81 65 = some (65, .invokestatic 213, 3, 87, 0, 0)) rfl rfl rfl ((ok_C_ofFraction hv7).deep 12) ?_
        exact mEnds.rtl (Option.some.inj hf) (fun _ => rfl)
def C_mean (x1 : Int32) (x2 : Int32) (x3 : Int32) (s : sg) : Option (Int64 × sg) :=
  (C_fuseIsAsTold x1 x2 x3 s).bind fun v1 =>
  if v1 = 0 then
    some ((-1 : Int64), s)
  else
    (H_copyFrom 53 11 s).bind fun s1 =>
    (C_weighed 10 (nI 0) x2 x1 (-4) (nI 0) s1).bind fun v3 =>
    (C_tenTo x2 v3.2).bind fun v4 =>
    (C_ofFraction v3.1 v4 x3 v3.2).bind fun v5 =>
    some (v5, v3.2)
set_option maxRecDepth 100000 in
theorem ok_C_mean {x1 : Int32} {x2 : Int32} {x3 : Int32} {s : sg} {rv : (Int64 × sg)} (hf : C_mean x1 x2 x3 s = some rv) : mEnds [] 14 82 (0, [some (.ref 10), some (.int x1), some (.int x2), some (.int x3)], [], hp shC s, 0, 0) (some (.long rv.1), hp shC rv.2, 0, 0) := by
  unfold C_mean at hf
  refine mEnds.stp 3 (pc' := 3) (l' := [some (.ref 10), some (.int x1), some (.int x2), some (.int x3)]) (st' := [.int x3, .int x2, .int x1]) (fun _ => rfl) ?_
  obtain ⟨v1, hv1, hf⟩ := ob hf
  refine t_cs (as := [.int x1, .int x2, .int x3]) (st := []) (Or.inl rfl) (rfl : mfetch 82 3 = some (3, .invokestatic 200, 3, 83, 0, 0)) rfl rfl rfl ((ok_C_fuseIsAsTold hv1).deep 12) ?_
  by_cases hc1 : v1 = 0
  · rw [if_pos hc1] at hf
    refine t_jF (rfl : mfetch 82 6 = some (6, .ifCond .ne 7, 3, 0, 0, 0)) (k_ne' hc1) ?_
    refine mEnds.stp 1 (pc' := 12) (l' := [some (.ref 10), some (.int x1), some (.int x2), some (.int x3)]) (st' := [.long (-1 : Int64)]) (fun _ => rfl) ?_
    exact mEnds.rtl (Option.some.inj hf) (fun _ => rfl)
  · rw [if_neg hc1] at hf
    refine t_jT (t := 13) (rfl : mfetch 82 6 = some (6, .ifCond .ne 7, 3, 0, 0, 0)) rfl (k_ne hc1) ?_
    refine mEnds.stp 1 (pc' := 14) (l' := [some (.ref 10), some (.int x1), some (.int x2), some (.int x3)]) (st' := [.ref 10]) (fun _ => rfl) ?_
    refine t_gr (rfl : mfetch 82 14 = some (14, .getfield 24, 3, 4, 3, 0)) rfl rfl ?_
    refine mEnds.stp 1 (pc' := 18) (l' := [some (.ref 10), some (.int x1), some (.int x2), some (.int x3)]) (st' := [.int (nI 0), .ref 21]) (fun _ => rfl) ?_
    refine t_aa (j := 0) (rfl : mfetch 82 18 = some (18, .aaload, 1, 0, 0, 0)) rfl rfl rfl rfl rfl ?_
    refine mEnds.stp 1 (pc' := 20) (l' := [some (.ref 10), some (.int x1), some (.int x2), some (.int x3)]) (st' := [.ref 10, .ref 53]) (fun _ => rfl) ?_
    refine t_gr (rfl : mfetch 82 20 = some (20, .getfield 10, 3, 4, 0, 0)) rfl rfl ?_
    obtain ⟨s1, hs1, hf⟩ := ob hf
    refine t_cv (as := [.ref 11]) (st := []) (rfl : mfetch 82 23 = some (23, .invokevirtual 70, 3, 7, 0, 0)) rfl rfl rfl rfl rfl ((ok_H_copyFrom isH_53 isH_11 hs1).deep 13) ?_
    refine mEnds.stp 6 (pc' := 33) (l' := [some (.ref 10), some (.int x1), some (.int x2), some (.int x3)]) (st' := [.int (nI 0), .int (-4), .int x1, .int x2, .int (nI 0), .ref 10]) (fun _ => rfl) ?_
    obtain ⟨v3, hv3, hf⟩ := ob hf
    refine t_cv (as := [.int (nI 0), .int x2, .int x1, .int (-4), .int (nI 0)]) (st := []) (rfl : mfetch 82 33 = some (33, .invokevirtual 205, 3, 84, 0, 0)) rfl rfl rfl rfl rfl (ok_C_weighed 10 (nI 0) x2 x1 (-4) (nI 0) s1 _ hv3) ?_
    refine mEnds.stp 1 (pc' := 37) (l' := [some (.ref 10), some (.int x1), some (.int x2), some (.int x3)]) (st' := [.int x2, .long v3.1]) (fun _ => rfl) ?_
    obtain ⟨v4, hv4, hf⟩ := ob hf
    refine t_cs (as := [.int x2]) (st := [.long v3.1]) (Or.inl rfl) (rfl : mfetch 82 37 = some (37, .invokestatic 209, 3, 86, 0, 0)) rfl rfl rfl ((ok_C_tenTo hv4).deep 13) ?_
    refine mEnds.stp 1 (pc' := 41) (l' := [some (.ref 10), some (.int x1), some (.int x2), some (.int x3)]) (st' := [.int x3, .long v4, .long v3.1]) (fun _ => rfl) ?_
    obtain ⟨v5, hv5, hf⟩ := ob hf
    refine t_cs (as := [.long v3.1, .long v4, .int x3]) (st := []) (Or.inl rfl) (rfl : mfetch 82 41 = some (41, .invokestatic 213, 3, 87, 0, 0)) rfl rfl rfl ((ok_C_ofFraction hv5).deep 12) ?_
    exact mEnds.rtl (Option.some.inj hf) (fun _ => rfl)
def C_see (x1 : Int32) (x2 : Int32) (x3 : Int32) (s : sg) : Option (Int32 × sg) :=
  (C_within x1 (nI 0) (nI 20) s).bind fun v1 =>
  if v1 = 0 then
    some ((-1), s)
  else
    (H_hasRoom 11 x2 s).bind fun v2 =>
    if v2 = 0 then
      some ((-1), s)
    else
      (C_within x3 (nI 0) (nI 99) s).bind fun v3 =>
      if v3 = 0 then
        some ((-1), s)
      else
        (F_put x1 x2 x3 s).bind fun v4 =>
        if v4.1 = 0 then
          some ((-3), v4.2)
        else
          some (v4.2 23 3, v4.2)
set_option maxRecDepth 100000 in
theorem ok_C_see {x1 : Int32} {x2 : Int32} {x3 : Int32} {s : sg} {rv : (Int32 × sg)} (hf : C_see x1 x2 x3 s = some rv) : mEnds [] 1 89 (0, [some (.ref 10), some (.int x1), some (.int x2), some (.int x3)], [], hp shC s, 0, 0) (some (.int rv.1), hp shC rv.2, 0, 0) := by
  unfold C_see at hf
  refine mEnds.stp 3 (pc' := 4) (l' := [some (.ref 10), some (.int x1), some (.int x2), some (.int x3)]) (st' := [.int (nI 20), .int (nI 0), .int x1]) (fun _ => rfl) ?_
  obtain ⟨v1, hv1, hf⟩ := ob hf
  refine t_cs (as := [.int x1, .int (nI 0), .int (nI 20)]) (st := []) (Or.inl rfl) (rfl : mfetch 89 4 = some (4, .invokestatic 48, 3, 105, 0, 0)) rfl rfl rfl (ok_C_within hv1) ?_
  by_cases hc1 : v1 = 0
  · rw [if_pos hc1] at hf
    refine t_jT (t := 31) (rfl : mfetch 89 7 = some (7, .ifCond .eq 24, 3, 0, 0, 0)) rfl (k_eq hc1) ?_
    refine mEnds.stp 1 (pc' := 32) (l' := [some (.ref 10), some (.int x1), some (.int x2), some (.int x3)]) (st' := [.int (-1)]) (fun _ => rfl) ?_
    exact mEnds.rti (Option.some.inj hf) (fun _ => rfl)
  · rw [if_neg hc1] at hf
    refine t_jF (rfl : mfetch 89 7 = some (7, .ifCond .eq 24, 3, 0, 0, 0)) (k_eq' hc1) ?_
    refine mEnds.stp 1 (pc' := 11) (l' := [some (.ref 10), some (.int x1), some (.int x2), some (.int x3)]) (st' := [.ref 10]) (fun _ => rfl) ?_
    refine t_gr (rfl : mfetch 89 11 = some (11, .getfield 10, 3, 4, 0, 0)) rfl rfl ?_
    refine mEnds.stp 1 (pc' := 15) (l' := [some (.ref 10), some (.int x1), some (.int x2), some (.int x3)]) (st' := [.int x2, .ref 11]) (fun _ => rfl) ?_
    obtain ⟨v2, hv2, hf⟩ := ob hf
    refine t_cv (as := [.int x2]) (st := []) (rfl : mfetch 89 15 = some (15, .invokevirtual 105, 3, 8, 0, 0)) rfl rfl rfl rfl rfl (ok_H_hasRoom isH_11 hv2) ?_
    by_cases hc2 : v2 = 0
    · rw [if_pos hc2] at hf
      refine t_jT (t := 31) (rfl : mfetch 89 18 = some (18, .ifCond .eq 13, 3, 0, 0, 0)) rfl (k_eq hc2) ?_
      refine mEnds.stp 1 (pc' := 32) (l' := [some (.ref 10), some (.int x1), some (.int x2), some (.int x3)]) (st' := [.int (-1)]) (fun _ => rfl) ?_
      exact mEnds.rti (Option.some.inj hf) (fun _ => rfl)
    · rw [if_neg hc2] at hf
      refine t_jF (rfl : mfetch 89 18 = some (18, .ifCond .eq 13, 3, 0, 0, 0)) (k_eq' hc2) ?_
      refine mEnds.stp 3 (pc' := 25) (l' := [some (.ref 10), some (.int x1), some (.int x2), some (.int x3)]) (st' := [.int (nI 99), .int (nI 0), .int x3]) (fun _ => rfl) ?_
      obtain ⟨v3, hv3, hf⟩ := ob hf
      refine t_cs (as := [.int x3, .int (nI 0), .int (nI 99)]) (st := []) (Or.inl rfl) (rfl : mfetch 89 25 = some (25, .invokestatic 48, 3, 105, 0, 0)) rfl rfl rfl (ok_C_within hv3) ?_
      by_cases hc3 : v3 = 0
      · rw [if_pos hc3] at hf
        refine t_jF (rfl : mfetch 89 28 = some (28, .ifCond .ne 5, 3, 0, 0, 0)) (k_ne' hc3) ?_
        refine mEnds.stp 1 (pc' := 32) (l' := [some (.ref 10), some (.int x1), some (.int x2), some (.int x3)]) (st' := [.int (-1)]) (fun _ => rfl) ?_
        exact mEnds.rti (Option.some.inj hf) (fun _ => rfl)
      · rw [if_neg hc3] at hf
        refine t_jT (t := 33) (rfl : mfetch 89 28 = some (28, .ifCond .ne 5, 3, 0, 0, 0)) rfl (k_ne hc3) ?_
        refine mEnds.stp 1 (pc' := 34) (l' := [some (.ref 10), some (.int x1), some (.int x2), some (.int x3)]) (st' := [.ref 10]) (fun _ => rfl) ?_
        refine t_gr (rfl : mfetch 89 34 = some (34, .getfield 36, 3, 4, 5, 0)) rfl rfl ?_
        refine mEnds.stp 3 (pc' := 40) (l' := [some (.ref 10), some (.int x1), some (.int x2), some (.int x3)]) (st' := [.int x3, .int x2, .int x1, .ref 23]) (fun _ => rfl) ?_
        obtain ⟨v4, hv4, hf⟩ := ob hf
        refine t_cv (as := [.int x1, .int x2, .int x3]) (st := []) (rfl : mfetch 89 40 = some (40, .invokevirtual 234, 3, 1, 0, 0)) rfl rfl rfl rfl rfl (ok_F_put hv4) ?_
        by_cases hc4 : v4.1 = 0
        · rw [if_pos hc4] at hf
          refine t_jT (t := 56) (rfl : mfetch 89 43 = some (43, .ifCond .eq 13, 3, 0, 0, 0)) rfl (k_eq hc4) ?_
          refine mEnds.stp 1 (pc' := 58) (l' := [some (.ref 10), some (.int x1), some (.int x2), some (.int x3)]) (st' := [.int (-3)]) (fun _ => rfl) ?_
          exact mEnds.rti (Option.some.inj hf) (fun _ => rfl)
        · rw [if_neg hc4] at hf
          refine t_jF (rfl : mfetch 89 43 = some (43, .ifCond .eq 13, 3, 0, 0, 0)) (k_eq' hc4) ?_
          refine mEnds.stp 1 (pc' := 47) (l' := [some (.ref 10), some (.int x1), some (.int x2), some (.int x3)]) (st' := [.ref 10]) (fun _ => rfl) ?_
          refine t_gr (rfl : mfetch 89 47 = some (47, .getfield 36, 3, 4, 5, 0)) rfl rfl ?_
          refine t_gi (rfl : mfetch 89 50 = some (50, .getfield 74, 3, 0, 3, 0)) rfl rfl ?_
          refine mEnds.stp 1 (pc' := 58) (l' := [some (.ref 10), some (.int x1), some (.int x2), some (.int x3)]) (st' := [.int (v4.2 23 3)]) (fun _ => rfl) ?_
          exact mEnds.rti (Option.some.inj hf) (fun _ => rfl)
def C_forget (x1 : Int32) (s : sg) : Option (Int32 × sg) :=
  (C_within x1 (nI 0) (s 23 3) s).bind fun v1 =>
  if v1 = 0 then
    some ((-1), s)
  else
    (some (up s 23 3 x1)).bind fun s1 =>
    some (s 23 3, s1)
set_option maxRecDepth 100000 in
theorem ok_C_forget {x1 : Int32} {s : sg} {rv : (Int32 × sg)} (hf : C_forget x1 s = some rv) : mEnds [] 1 90 (0, [some (.ref 10), some (.int x1), none], [], hp shC s, 0, 0) (some (.int rv.1), hp shC rv.2, 0, 0) := by
  unfold C_forget at hf
  refine mEnds.stp 1 (pc' := 1) (l' := [some (.ref 10), some (.int x1), none]) (st' := [.ref 10]) (fun _ => rfl) ?_
  refine t_gr (rfl : mfetch 90 1 = some (1, .getfield 36, 3, 4, 5, 0)) rfl rfl ?_
  refine t_gi (rfl : mfetch 90 4 = some (4, .getfield 74, 3, 0, 3, 0)) rfl rfl ?_
  refine mEnds.stp 4 (pc' := 11) (l' := [some (.ref 10), some (.int x1), some (.int (s 23 3))]) (st' := [.int (s 23 3), .int (nI 0), .int x1]) (fun _ => rfl) ?_
  obtain ⟨v1, hv1, hf⟩ := ob hf
  refine t_cs (as := [.int x1, .int (nI 0), .int (s 23 3)]) (st := []) (Or.inl rfl) (rfl : mfetch 90 11 = some (11, .invokestatic 48, 3, 105, 0, 0)) rfl rfl rfl (ok_C_within hv1) ?_
  by_cases hc1 : v1 = 0
  · rw [if_pos hc1] at hf
    refine t_jF (rfl : mfetch 90 14 = some (14, .ifCond .ne 5, 3, 0, 0, 0)) (k_ne' hc1) ?_
    refine mEnds.stp 1 (pc' := 18) (l' := [some (.ref 10), some (.int x1), some (.int (s 23 3))]) (st' := [.int (-1)]) (fun _ => rfl) ?_
    exact mEnds.rti (Option.some.inj hf) (fun _ => rfl)
  · rw [if_neg hc1] at hf
    refine t_jT (t := 19) (rfl : mfetch 90 14 = some (14, .ifCond .ne 5, 3, 0, 0, 0)) rfl (k_ne hc1) ?_
    refine mEnds.stp 1 (pc' := 20) (l' := [some (.ref 10), some (.int x1), some (.int (s 23 3))]) (st' := [.ref 10]) (fun _ => rfl) ?_
    refine t_gr (rfl : mfetch 90 20 = some (20, .getfield 36, 3, 4, 5, 0)) rfl rfl ?_
    refine mEnds.stp 1 (pc' := 24) (l' := [some (.ref 10), some (.int x1), some (.int (s 23 3))]) (st' := [.int x1, .ref 23]) (fun _ => rfl) ?_
    obtain ⟨s1, hs1, hf⟩ := ob hf
    refine t_pi (rfl : mfetch 90 24 = some (24, .putfield 74, 3, 0, 3, 0)) rfl rfl rfl rfl hs1 ?_
    refine mEnds.stp 1 (pc' := 28) (l' := [some (.ref 10), some (.int x1), some (.int (s 23 3))]) (st' := [.int (s 23 3)]) (fun _ => rfl) ?_
    exact mEnds.rti (Option.some.inj hf) (fun _ => rfl)
