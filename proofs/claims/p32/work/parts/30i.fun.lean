def C_lay (x1 : Int32) (x2 : Int32) (x3 : Int32) (s : sg) : Option (Int32 × sg) :=
  (C_within x1 (nI 0) (nI 3) s).bind fun v1 =>
  if v1 = 0 then
    some ((-1), s)
  else
    (midx x1 4).bind fun j1 =>
    (S_faultAt (133 + 2 * j1) (s (133 + 2 * j1) 0) x2 s).bind fun v2 =>
    if v2 = 0 then
      (S_put (133 + 2 * j1) x2 x3 s).bind fun s1 =>
      some (nI 1, s1)
    else
      some ((-10) - v2, s)
set_option maxRecDepth 100000 in
theorem ok_C_lay {x1 : Int32} {x2 : Int32} {x3 : Int32} {s : sg} {rv : (Int32 × sg)} (hf : C_lay x1 x2 x3 s = some rv) : mEnds [] 2 101 (0, [some (.ref 10), some (.int x1), some (.int x2), some (.int x3), none, none], [], hp shC s, 0, 0) (some (.int rv.1), hp shC rv.2, 0, 0) := by
  unfold C_lay at hf
  refine mEnds.stp 3 (pc' := 3) (l' := [some (.ref 10), some (.int x1), some (.int x2), some (.int x3), none, none]) (st' := [.int (nI 3), .int (nI 0), .int x1]) (fun _ => rfl) ?_
  obtain ⟨v1, hv1, hf⟩ := ob hf
  refine t_cs (as := [.int x1, .int (nI 0), .int (nI 3)]) (st := []) (Or.inl rfl) (rfl : mfetch 101 3 = some (3, .invokestatic 48, 3, 105, 0, 0)) rfl rfl rfl ((ok_C_within hv1).deep 1) ?_
  by_cases hc1 : v1 = 0
  · rw [if_pos hc1] at hf
    refine t_jF (rfl : mfetch 101 6 = some (6, .ifCond .ne 5, 3, 0, 0, 0)) (k_ne' hc1) ?_
    refine mEnds.stp 1 (pc' := 10) (l' := [some (.ref 10), some (.int x1), some (.int x2), some (.int x3), none, none]) (st' := [.int (-1)]) (fun _ => rfl) ?_
    exact mEnds.rti (Option.some.inj hf) (fun _ => rfl)
  · rw [if_neg hc1] at hf
    refine t_jT (t := 11) (rfl : mfetch 101 6 = some (6, .ifCond .ne 5, 3, 0, 0, 0)) rfl (k_ne hc1) ?_
    refine mEnds.stp 1 (pc' := 12) (l' := [some (.ref 10), some (.int x1), some (.int x2), some (.int x3), none, none]) (st' := [.ref 10]) (fun _ => rfl) ?_
    refine t_gr (rfl : mfetch 101 12 = some (12, .getfield 29, 3, 4, 4, 0)) rfl rfl ?_
    refine mEnds.stp 1 (pc' := 16) (l' := [some (.ref 10), some (.int x1), some (.int x2), some (.int x3), none, none]) (st' := [.int x1, .ref 22]) (fun _ => rfl) ?_
    obtain ⟨j1, hj1, hf⟩ := ob hf
    refine t_aa (rfl : mfetch 101 16 = some (16, .aaload, 1, 0, 0, 0)) rfl rfl rfl hj1 (el_sh (mi_lt hj1)) ?_
    refine mEnds.stp 3 (pc' := 23) (l' := [some (.ref 10), some (.int x1), some (.int x2), some (.int x3), some (.ref (133 + 2 * j1)), none]) (st' := [.ref (133 + 2 * j1), .ref (133 + 2 * j1)]) (fun _ => rfl) ?_
    refine t_gi (rfl : mfetch 101 23 = some (23, .getfield 254, 3, 2, 0, 0)) (isS_at (mi_lt hj1)).1 rfl ?_
    refine mEnds.stp 1 (pc' := 27) (l' := [some (.ref 10), some (.int x1), some (.int x2), some (.int x3), some (.ref (133 + 2 * j1)), none]) (st' := [.int x2, .int (s (133 + 2 * j1) 0), .ref (133 + 2 * j1)]) (fun _ => rfl) ?_
    obtain ⟨v2, hv2, hf⟩ := ob hf
    refine t_cv (as := [.int (s (133 + 2 * j1) 0), .int x2]) (st := []) (rfl : mfetch 101 27 = some (27, .invokevirtual 257, 3, 33, 0, 0)) (isS_at (mi_lt hj1)).1 rfl rfl rfl rfl (ok_S_faultAt (isS_at (mi_lt hj1)) hv2) ?_
    refine mEnds.stp 2 (pc' := 34) (l' := [some (.ref 10), some (.int x1), some (.int x2), some (.int x3), some (.ref (133 + 2 * j1)), some (.int v2)]) (st' := [.int v2]) (fun _ => rfl) ?_
    by_cases hc2 : v2 = 0
    · rw [if_pos hc2] at hf
      refine t_jT (t := 43) (rfl : mfetch 101 34 = some (34, .ifCond .eq 9, 3, 0, 0, 0)) rfl (k_eq hc2) ?_
      refine mEnds.stp 3 (pc' := 47) (l' := [some (.ref 10), some (.int x1), some (.int x2), some (.int x3), some (.ref (133 + 2 * j1)), some (.int v2)]) (st' := [.int x3, .int x2, .ref (133 + 2 * j1)]) (fun _ => rfl) ?_
      obtain ⟨s1, hs1, hf⟩ := ob hf
      refine t_cv (as := [.int x2, .int x3]) (st := []) (rfl : mfetch 101 47 = some (47, .invokevirtual 260, 3, 32, 0, 0)) (isS_at (mi_lt hj1)).1 rfl rfl rfl rfl ((ok_S_put (isS_at (mi_lt hj1)) hs1).deep 1) ?_
      refine mEnds.stp 1 (pc' := 51) (l' := [some (.ref 10), some (.int x1), some (.int x2), some (.int x3), some (.ref (133 + 2 * j1)), some (.int v2)]) (st' := [.int (nI 1)]) (fun _ => rfl) ?_
      exact mEnds.rti (Option.some.inj hf) (fun _ => rfl)
    · rw [if_neg hc2] at hf
      refine t_jF (rfl : mfetch 101 34 = some (34, .ifCond .eq 9, 3, 0, 0, 0)) (k_eq' hc2) ?_
      refine mEnds.stp 3 (pc' := 42) (l' := [some (.ref 10), some (.int x1), some (.int x2), some (.int x3), some (.ref (133 + 2 * j1)), some (.int v2)]) (st' := [.int ((-10) - v2)]) (fun _ => rfl) ?_
      exact mEnds.rti (Option.some.inj hf) (fun _ => rfl)
def C_read_130 (x7 : Int32) (x8 : Int32) (s : sg) : Option (Int32 × sg) :=
  (H_copyFrom 11 53 s).bind fun s1 =>
  (some (up s1 10 7 x7)).bind fun s2 =>
  some (x8, s2)
set_option maxRecDepth 100000 in
theorem ok_C_read_130 {x7 : Int32} {x8 : Int32} {s : sg} {rv : (Int32 × sg)} (hf : C_read_130 x7 x8 s = some rv) : mEnds [] 5 102 (130, [some (.ref 10), none, none, none, none, none, some (.ref 53), some (.int x7), some (.int x8), none, none], [], hp shC s, 0, 0) (some (.int rv.1), hp shC rv.2, 0, 0) := by
  unfold C_read_130 at hf
  refine mEnds.stp 1 (pc' := 131) (l' := [some (.ref 10), none, none, none, none, none, some (.ref 53), some (.int x7), some (.int x8), none, none]) (st' := [.ref 10]) (fun _ => rfl) ?_
  refine t_gr (rfl : mfetch 102 131 = some (131, .getfield 10, 3, 4, 0, 0)) rfl rfl ?_
  refine mEnds.stp 1 (pc' := 136) (l' := [some (.ref 10), none, none, none, none, none, some (.ref 53), some (.int x7), some (.int x8), none, none]) (st' := [.ref 53, .ref 11]) (fun _ => rfl) ?_
  obtain ⟨s1, hs1, hf⟩ := ob hf
  refine t_cv (as := [.ref 53]) (st := []) (rfl : mfetch 102 136 = some (136, .invokevirtual 70, 3, 7, 0, 0)) rfl rfl rfl rfl rfl ((ok_H_copyFrom isH_11 isH_53 hs1).deep 4) ?_
  refine mEnds.stp 2 (pc' := 142) (l' := [some (.ref 10), none, none, none, none, none, some (.ref 53), some (.int x7), some (.int x8), none, none]) (st' := [.int x7, .ref 10]) (fun _ => rfl) ?_
  obtain ⟨s2, hs2, hf⟩ := ob hf
  refine t_pi (rfl : mfetch 102 142 = some (142, .putfield 272, 3, 4, 7, 0)) rfl rfl rfl rfl hs2 ?_
  refine mEnds.stp 1 (pc' := 147) (l' := [some (.ref 10), none, none, none, none, none, some (.ref 53), some (.int x7), some (.int x8), none, none]) (st' := [.int x8]) (fun _ => rfl) ?_
  exact mEnds.rti (Option.some.inj hf) (fun _ => rfl)
def C_read_54 (x2 : Int32) (x3 : Int32) (x4 : Int32) (x5 : Nat) : Nat → Int32 → Int32 → Int32 → sg → Option (Int32 × sg)
  | 0, _, _, _, _ => none
  | fu + 1, x7, x8, x9, s =>
  if x9 < x4 then
    if x7 = 0 then
      (S_faultAtPair x5 x2 (x3 + ((nI 2) * x9)) s).bind fun v1 =>
      if v1 = 0 then
        (midx (x3 + ((nI 2) * x9)) 40).bind fun j1 =>
        (midx ((x3 + ((nI 2) * x9)) + (nI 1)) 40).bind fun j2 =>
        (H_takesMarkAndHour 53 (s (x5 + 1) j1) (s (x5 + 1) j2) s).bind fun v2 =>
        if v2.1 = 0 then
          some ((-20) - x9, v2.2)
        else
          C_read_54 x2 x3 x4 x5 fu v1 (x8 + (nI 1)) (x9 + (nI 1)) v2.2
      else
        C_read_54 x2 x3 x4 x5 fu v1 x8 (x9 + (nI 1)) s
    else
      C_read_130 x7 x8 s
  else
    C_read_130 x7 x8 s
set_option maxRecDepth 100000 in
theorem ok_C_read_54 {x2 : Int32} {x3 : Int32} {x4 : Int32} {x5 : Nat} (hx5 : isS x5) : ∀ (fu : Nat) (x7 : Int32) (x8 : Int32) (x9 : Int32) (s : sg) (rv : (Int32 × sg)), C_read_54 x2 x3 x4 x5 fu x7 x8 x9 s = some rv → mEnds [] 5 102 (54, [some (.ref 10), none, some (.int x2), some (.int x3), some (.int x4), some (.ref x5), some (.ref 53), some (.int x7), some (.int x8), some (.int x9), none], [], hp shC s, 0, 0) (some (.int rv.1), hp shC rv.2, 0, 0)
  | 0, _, _, _, _, _, hf => by cases hf
  | fu + 1, x7, x8, x9, s, rv, hf => by
    rw [C_read_54] at hf
    refine mEnds.stp 2 (pc' := 58) (l' := [some (.ref 10), none, some (.int x2), some (.int x3), some (.int x4), some (.ref x5), some (.ref 53), some (.int x7), some (.int x8), some (.int x9), none]) (st' := [.int x4, .int x9]) (fun _ => rfl) ?_
    by_cases hc1 : x9 < x4
    · rw [if_pos hc1] at hf
      refine t_cF (rfl : mfetch 102 58 = some (58, .if_icmp .ge 72, 3, 0, 0, 0)) (k_ge' hc1) ?_
      refine mEnds.stp 1 (pc' := 63) (l' := [some (.ref 10), none, some (.int x2), some (.int x3), some (.int x4), some (.ref x5), some (.ref 53), some (.int x7), some (.int x8), some (.int x9), none]) (st' := [.int x7]) (fun _ => rfl) ?_
      by_cases hc2 : x7 = 0
      · rw [if_pos hc2] at hf
        refine t_jF (rfl : mfetch 102 63 = some (63, .ifCond .ne 67, 3, 0, 0, 0)) (k_ne' hc2) ?_
        refine mEnds.stp 9 (pc' := 79) (l' := [some (.ref 10), none, some (.int x2), some (.int x3), some (.int x4), some (.ref x5), some (.ref 53), some (.int x7), some (.int x8), some (.int x9), some (.int (x3 + ((nI 2) * x9)))]) (st' := [.int (x3 + ((nI 2) * x9)), .int x2, .ref x5]) (fun _ => rfl) ?_
        obtain ⟨v1, hv1, hf⟩ := ob hf
        refine t_cv (as := [.int x2, .int (x3 + ((nI 2) * x9))]) (st := []) (rfl : mfetch 102 79 = some (79, .invokevirtual 262, 3, 34, 0, 0)) hx5.1 rfl rfl rfl rfl ((ok_S_faultAtPair hx5 hv1).deep 2) ?_
        refine mEnds.stp 2 (pc' := 86) (l' := [some (.ref 10), none, some (.int x2), some (.int x3), some (.int x4), some (.ref x5), some (.ref 53), some (.int v1), some (.int x8), some (.int x9), some (.int (x3 + ((nI 2) * x9)))]) (st' := [.int v1]) (fun _ => rfl) ?_
        by_cases hc3 : v1 = 0
        · rw [if_pos hc3] at hf
          refine t_jF (rfl : mfetch 102 86 = some (86, .ifCond .ne 38, 3, 0, 0, 0)) (k_ne' hc3) ?_
          refine mEnds.stp 2 (pc' := 93) (l' := [some (.ref 10), none, some (.int x2), some (.int x3), some (.int x4), some (.ref x5), some (.ref 53), some (.int v1), some (.int x8), some (.int x9), some (.int (x3 + ((nI 2) * x9)))]) (st' := [.ref x5, .ref 53]) (fun _ => rfl) ?_
          refine t_gr (rfl : mfetch 102 93 = some (93, .getfield 265, 3, 2, 2, 0)) hx5.1 rfl ?_
          refine mEnds.stp 1 (pc' := 98) (l' := [some (.ref 10), none, some (.int x2), some (.int x3), some (.int x4), some (.ref x5), some (.ref 53), some (.int v1), some (.int x8), some (.int x9), some (.int (x3 + ((nI 2) * x9)))]) (st' := [.int (x3 + ((nI 2) * x9)), .ref (x5 + 1), .ref 53]) (fun _ => rfl) ?_
          obtain ⟨j1, hj1, hf⟩ := ob hf
          refine t_ia (rfl : mfetch 102 98 = some (98, .iaload, 1, 0, 0, 0)) hx5.2 (isS_le hx5 1) hj1 ?_
          refine mEnds.stp 1 (pc' := 101) (l' := [some (.ref 10), none, some (.int x2), some (.int x3), some (.int x4), some (.ref x5), some (.ref 53), some (.int v1), some (.int x8), some (.int x9), some (.int (x3 + ((nI 2) * x9)))]) (st' := [.ref x5, .int (s (x5 + 1) j1), .ref 53]) (fun _ => rfl) ?_
          refine t_gr (rfl : mfetch 102 101 = some (101, .getfield 265, 3, 2, 2, 0)) hx5.1 rfl ?_
          refine mEnds.stp 3 (pc' := 108) (l' := [some (.ref 10), none, some (.int x2), some (.int x3), some (.int x4), some (.ref x5), some (.ref 53), some (.int v1), some (.int x8), some (.int x9), some (.int (x3 + ((nI 2) * x9)))]) (st' := [.int ((x3 + ((nI 2) * x9)) + (nI 1)), .ref (x5 + 1), .int (s (x5 + 1) j1), .ref 53]) (fun _ => rfl) ?_
          obtain ⟨j2, hj2, hf⟩ := ob hf
          refine t_ia (rfl : mfetch 102 108 = some (108, .iaload, 1, 0, 0, 0)) hx5.2 (isS_le hx5 1) hj2 ?_
          obtain ⟨v2, hv2, hf⟩ := ob hf
          refine t_cv (as := [.int (s (x5 + 1) j1), .int (s (x5 + 1) j2)]) (st := []) (rfl : mfetch 102 109 = some (109, .invokevirtual 268, 3, 19, 0, 0)) rfl rfl rfl rfl rfl (ok_H_takesMarkAndHour isH_53 hv2) ?_
          by_cases hc4 : v2.1 = 0
          · rw [if_pos hc4] at hf
            refine t_jF (rfl : mfetch 102 112 = some (112, .ifCond .ne 9, 3, 0, 0, 0)) (k_ne' hc4) ?_
            refine mEnds.stp 3 (pc' := 120) (l' := [some (.ref 10), none, some (.int x2), some (.int x3), some (.int x4), some (.ref x5), some (.ref 53), some (.int v1), some (.int x8), some (.int x9), some (.int (x3 + ((nI 2) * x9)))]) (st' := [.int ((-20) - x9)]) (fun _ => rfl) ?_
            exact mEnds.rti (Option.some.inj hf) (fun _ => rfl)
          · rw [if_neg hc4] at hf
            refine t_jT (t := 121) (rfl : mfetch 102 112 = some (112, .ifCond .ne 9, 3, 0, 0, 0)) rfl (k_ne hc4) ?_
            refine mEnds.stp 3 (pc' := 54) (l' := [some (.ref 10), none, some (.int x2), some (.int x3), some (.int x4), some (.ref x5), some (.ref 53), some (.int v1), some (.int (x8 + (nI 1))), some (.int (x9 + (nI 1))), some (.int (x3 + ((nI 2) * x9)))]) (st' := []) (fun _ => rfl) ?_
            refine mEnds.cut (l := [some (.ref 10), none, some (.int x2), some (.int x3), some (.int x4), some (.ref x5), some (.ref 53), some (.int v1), some (.int (x8 + (nI 1))), some (.int (x9 + (nI 1))), none]) ⟨rfl, ⟨rfl, ⟨rfl, ⟨rfl, ⟨rfl, ⟨rfl, ⟨rfl, ⟨rfl, ⟨rfl, trivial⟩⟩⟩⟩⟩⟩⟩⟩⟩ ?_
            exact ok_C_read_54 hx5 fu v1 (x8 + (nI 1)) (x9 + (nI 1)) v2.2 _ hf
        · rw [if_neg hc3] at hf
          refine t_jT (t := 124) (rfl : mfetch 102 86 = some (86, .ifCond .ne 38, 3, 0, 0, 0)) rfl (k_ne hc3) ?_
          refine mEnds.stp 2 (pc' := 54) (l' := [some (.ref 10), none, some (.int x2), some (.int x3), some (.int x4), some (.ref x5), some (.ref 53), some (.int v1), some (.int x8), some (.int (x9 + (nI 1))), some (.int (x3 + ((nI 2) * x9)))]) (st' := []) (fun _ => rfl) ?_
          refine mEnds.cut (l := [some (.ref 10), none, some (.int x2), some (.int x3), some (.int x4), some (.ref x5), some (.ref 53), some (.int v1), some (.int x8), some (.int (x9 + (nI 1))), none]) ⟨rfl, ⟨rfl, ⟨rfl, ⟨rfl, ⟨rfl, ⟨rfl, ⟨rfl, ⟨rfl, ⟨rfl, trivial⟩⟩⟩⟩⟩⟩⟩⟩⟩ ?_
          exact ok_C_read_54 hx5 fu v1 x8 (x9 + (nI 1)) s _ hf
      · rw [if_neg hc2] at hf
        refine t_jT (t := 130) (rfl : mfetch 102 63 = some (63, .ifCond .ne 67, 3, 0, 0, 0)) rfl (k_ne hc2) ?_
        refine mEnds.cut (l := [some (.ref 10), none, none, none, none, none, some (.ref 53), some (.int x7), some (.int x8), none, none]) ⟨rfl, ⟨rfl, ⟨rfl, ⟨rfl, trivial⟩⟩⟩⟩ ?_
        exact ok_C_read_130 hf
    · rw [if_neg hc1] at hf
      refine t_cT (t := 130) (rfl : mfetch 102 58 = some (58, .if_icmp .ge 72, 3, 0, 0, 0)) rfl (k_ge hc1) ?_
      refine mEnds.cut (l := [some (.ref 10), none, none, none, none, none, some (.ref 53), some (.int x7), some (.int x8), none, none]) ⟨rfl, ⟨rfl, ⟨rfl, ⟨rfl, trivial⟩⟩⟩⟩ ?_
      exact ok_C_read_130 hf
def C_read (x1 : Int32) (x2 : Int32) (x3 : Int32) (x4 : Int32) (s : sg) : Option (Int32 × sg) :=
  (C_within x1 (nI 0) (nI 3) s).bind fun v1 =>
  if v1 = 0 then
    some ((-1), s)
  else
    (C_within x2 (nI 0) (nI 2) s).bind fun v2 =>
    if v2 = 0 then
      some ((-1), s)
    else
      (C_within x4 (nI 0) (nI 20) s).bind fun v3 =>
      if v3 = 0 then
        some ((-1), s)
      else
        (midx x1 4).bind fun j1 =>
        (C_copyOfNow s).bind fun s1 =>
        C_read_54 x2 x3 x4 (133 + 2 * j1) FU (nI 0) (nI 0) (nI 0) s1
set_option maxRecDepth 100000 in
theorem ok_C_read {x1 : Int32} {x2 : Int32} {x3 : Int32} {x4 : Int32} {s : sg} {rv : (Int32 × sg)} (hf : C_read x1 x2 x3 x4 s = some rv) : mEnds [] 5 102 (0, [some (.ref 10), some (.int x1), some (.int x2), some (.int x3), some (.int x4), none, none, none, none, none, none], [], hp shC s, 0, 0) (some (.int rv.1), hp shC rv.2, 0, 0) := by
  unfold C_read at hf
  refine mEnds.stp 3 (pc' := 3) (l' := [some (.ref 10), some (.int x1), some (.int x2), some (.int x3), some (.int x4), none, none, none, none, none, none]) (st' := [.int (nI 3), .int (nI 0), .int x1]) (fun _ => rfl) ?_
  obtain ⟨v1, hv1, hf⟩ := ob hf
  refine t_cs (as := [.int x1, .int (nI 0), .int (nI 3)]) (st := []) (Or.inl rfl) (rfl : mfetch 102 3 = some (3, .invokestatic 48, 3, 105, 0, 0)) rfl rfl rfl ((ok_C_within hv1).deep 4) ?_
  by_cases hc1 : v1 = 0
  · rw [if_pos hc1] at hf
    refine t_jT (t := 29) (rfl : mfetch 102 6 = some (6, .ifCond .eq 23, 3, 0, 0, 0)) rfl (k_eq hc1) ?_
    refine mEnds.stp 1 (pc' := 30) (l' := [some (.ref 10), some (.int x1), some (.int x2), some (.int x3), some (.int x4), none, none, none, none, none, none]) (st' := [.int (-1)]) (fun _ => rfl) ?_
    exact mEnds.rti (Option.some.inj hf) (fun _ => rfl)
  · rw [if_neg hc1] at hf
    refine t_jF (rfl : mfetch 102 6 = some (6, .ifCond .eq 23, 3, 0, 0, 0)) (k_eq' hc1) ?_
    refine mEnds.stp 3 (pc' := 12) (l' := [some (.ref 10), some (.int x1), some (.int x2), some (.int x3), some (.int x4), none, none, none, none, none, none]) (st' := [.int (nI 2), .int (nI 0), .int x2]) (fun _ => rfl) ?_
    obtain ⟨v2, hv2, hf⟩ := ob hf
    refine t_cs (as := [.int x2, .int (nI 0), .int (nI 2)]) (st := []) (Or.inl rfl) (rfl : mfetch 102 12 = some (12, .invokestatic 48, 3, 105, 0, 0)) rfl rfl rfl ((ok_C_within hv2).deep 4) ?_
    by_cases hc2 : v2 = 0
    · rw [if_pos hc2] at hf
      refine t_jT (t := 29) (rfl : mfetch 102 15 = some (15, .ifCond .eq 14, 3, 0, 0, 0)) rfl (k_eq hc2) ?_
      refine mEnds.stp 1 (pc' := 30) (l' := [some (.ref 10), some (.int x1), some (.int x2), some (.int x3), some (.int x4), none, none, none, none, none, none]) (st' := [.int (-1)]) (fun _ => rfl) ?_
      exact mEnds.rti (Option.some.inj hf) (fun _ => rfl)
    · rw [if_neg hc2] at hf
      refine t_jF (rfl : mfetch 102 15 = some (15, .ifCond .eq 14, 3, 0, 0, 0)) (k_eq' hc2) ?_
      refine mEnds.stp 3 (pc' := 23) (l' := [some (.ref 10), some (.int x1), some (.int x2), some (.int x3), some (.int x4), none, none, none, none, none, none]) (st' := [.int (nI 20), .int (nI 0), .int x4]) (fun _ => rfl) ?_
      obtain ⟨v3, hv3, hf⟩ := ob hf
      refine t_cs (as := [.int x4, .int (nI 0), .int (nI 20)]) (st := []) (Or.inl rfl) (rfl : mfetch 102 23 = some (23, .invokestatic 48, 3, 105, 0, 0)) rfl rfl rfl ((ok_C_within hv3).deep 4) ?_
      by_cases hc3 : v3 = 0
      · rw [if_pos hc3] at hf
        refine t_jF (rfl : mfetch 102 26 = some (26, .ifCond .ne 5, 3, 0, 0, 0)) (k_ne' hc3) ?_
        refine mEnds.stp 1 (pc' := 30) (l' := [some (.ref 10), some (.int x1), some (.int x2), some (.int x3), some (.int x4), none, none, none, none, none, none]) (st' := [.int (-1)]) (fun _ => rfl) ?_
        exact mEnds.rti (Option.some.inj hf) (fun _ => rfl)
      · rw [if_neg hc3] at hf
        refine t_jT (t := 31) (rfl : mfetch 102 26 = some (26, .ifCond .ne 5, 3, 0, 0, 0)) rfl (k_ne hc3) ?_
        refine mEnds.stp 1 (pc' := 32) (l' := [some (.ref 10), some (.int x1), some (.int x2), some (.int x3), some (.int x4), none, none, none, none, none, none]) (st' := [.ref 10]) (fun _ => rfl) ?_
        refine t_gr (rfl : mfetch 102 32 = some (32, .getfield 29, 3, 4, 4, 0)) rfl rfl ?_
        refine mEnds.stp 1 (pc' := 36) (l' := [some (.ref 10), some (.int x1), some (.int x2), some (.int x3), some (.int x4), none, none, none, none, none, none]) (st' := [.int x1, .ref 22]) (fun _ => rfl) ?_
        obtain ⟨j1, hj1, hf⟩ := ob hf
        refine t_aa (rfl : mfetch 102 36 = some (36, .aaload, 1, 0, 0, 0)) rfl rfl rfl hj1 (el_sh (mi_lt hj1)) ?_
        refine mEnds.stp 2 (pc' := 40) (l' := [some (.ref 10), some (.int x1), some (.int x2), some (.int x3), some (.int x4), some (.ref (133 + 2 * j1)), none, none, none, none, none]) (st' := [.ref 10]) (fun _ => rfl) ?_
        obtain ⟨s1, hs1, hf⟩ := ob hf
        refine t_cv (as := []) (st := []) (rfl : mfetch 102 40 = some (40, .invokevirtual 167, 3, 109, 0, 0)) rfl rfl rfl rfl rfl ((ok_C_copyOfNow hs1).deep 3) ?_
        refine mEnds.stp 7 (pc' := 54) (l' := [some (.ref 10), some (.int x1), some (.int x2), some (.int x3), some (.int x4), some (.ref (133 + 2 * j1)), some (.ref 53), some (.int (nI 0)), some (.int (nI 0)), some (.int (nI 0)), none]) (st' := []) (fun _ => rfl) ?_
        refine mEnds.cut (l := [some (.ref 10), none, some (.int x2), some (.int x3), some (.int x4), some (.ref (133 + 2 * j1)), some (.ref 53), some (.int (nI 0)), some (.int (nI 0)), some (.int (nI 0)), none]) ⟨rfl, ⟨rfl, ⟨rfl, ⟨rfl, ⟨rfl, ⟨rfl, ⟨rfl, ⟨rfl, ⟨rfl, trivial⟩⟩⟩⟩⟩⟩⟩⟩⟩ ?_
        exact ok_C_read_54 (isS_at (mi_lt hj1)) FU (nI 0) (nI 0) (nI 0) s1 _ hf
def C_torn (s : sg) : Option Int32 :=
  some (s 10 7)
set_option maxRecDepth 100000 in
theorem ok_C_torn {s : sg} {rv : Int32} (hf : C_torn s = some rv) : mEnds [] 0 103 (0, [some (.ref 10)], [], hp shC s, 0, 0) (some (.int rv), hp shC s, 0, 0) := by
  unfold C_torn at hf
  refine mEnds.stp 1 (pc' := 1) (l' := [some (.ref 10)]) (st' := [.ref 10]) (fun _ => rfl) ?_
  refine t_gi (rfl : mfetch 103 1 = some (1, .getfield 272, 3, 4, 7, 0)) rfl rfl ?_
  cases hf; exact mEnds.rt (fun _ => rfl)
def C_count_62 (y0 : Int32) (s : sg) : Option Int32 :=
  (midx (nI 1) 2).bind fun j1 =>
  if s 20 j1 = 0 then
    some (y0 + (nI 0))
  else
    some (y0 + (nI 1))
set_option maxRecDepth 100000 in
theorem ok_C_count_62 {y0 : Int32} {s : sg} {rv : Int32} (hf : C_count_62 y0 s = some rv) : mEnds [] 1 104 (62, [some (.ref 10), none], [.int y0], hp shC s, 0, 0) (some (.int rv), hp shC s, 0, 0) := by
  unfold C_count_62 at hf
  refine mEnds.stp 1 (pc' := 63) (l' := [some (.ref 10), none]) (st' := [.ref 10, .int y0]) (fun _ => rfl) ?_
  refine t_gr (rfl : mfetch 104 63 = some (63, .getfield 20, 3, 4, 2, 0)) rfl rfl ?_
  refine mEnds.stp 1 (pc' := 67) (l' := [some (.ref 10), none]) (st' := [.int (nI 1), .ref 20, .int y0]) (fun _ => rfl) ?_
  obtain ⟨j1, hj1, hf⟩ := ob hf
  refine t_ba (rfl : mfetch 104 67 = some (67, .baload, 1, 0, 0, 0)) rfl rfl rfl hj1 ?_
  by_cases hc1 : s 20 j1 = 0
  · rw [if_pos hc1] at hf
    refine t_jT (t := 75) (rfl : mfetch 104 68 = some (68, .ifCond .eq 7, 3, 0, 0, 0)) rfl (k_eq hc1) ?_
    refine mEnds.stp 2 (pc' := 77) (l' := [some (.ref 10), none]) (st' := [.int (y0 + (nI 0))]) (fun _ => rfl) ?_
    cases hf; exact mEnds.rt (fun _ => rfl)
  · rw [if_neg hc1] at hf
    refine t_jF (rfl : mfetch 104 68 = some (68, .ifCond .eq 7, 3, 0, 0, 0)) (k_eq' hc1) ?_
    refine mEnds.stp 3 (pc' := 77) (l' := [some (.ref 10), none]) (st' := [.int (y0 + (nI 1))]) (fun _ => rfl) ?_
    cases hf; exact mEnds.rt (fun _ => rfl)
def C_count (x1 : Int32) (s : sg) : Option Int32 :=
  if x1 = nI 0 then
    some (s 23 3)
  else
    if x1 = nI 1 then
      (midx (nI 0) 2).bind fun j1 =>
      if s 20 j1 = 0 then
        C_count_62 (nI 0) s
      else
        C_count_62 (nI 1) s
    else
      if x1 = nI 2 then
        some (s 27 1)
      else
        if x1 = nI 3 then
          (S_isThere 133 s).bind fun v1 =>
          if v1 = 0 then
            some (-4)
          else
            some (s 133 1)
        else
          if x1 = nI 4 then
            (C_sumOf 13 6 (s 11 0) s).bind fun v2 =>
            some v2
          else
            if x1 = nI 5 then
              (C_sumOf 17 5 ((s 11 0) - (nI 1)) s).bind fun v3 =>
              some v3
            else
              some (-1)
set_option maxRecDepth 100000 in
theorem ok_C_count {x1 : Int32} {s : sg} {rv : Int32} (hf : C_count x1 s = some rv) : mEnds [] 1 104 (0, [some (.ref 10), some (.int x1)], [], hp shC s, 0, 0) (some (.int rv), hp shC s, 0, 0) := by
  unfold C_count at hf
  refine mEnds.stp 1 (pc' := 1) (l' := [some (.ref 10), some (.int x1)]) (st' := [.int x1]) (fun _ => rfl) ?_
  by_cases hc1 : x1 = nI 0
  · rw [if_pos hc1] at hf
    refine t_sw hc1 (fun _ _ _ => rfl) (t := 40) ?_
    refine mEnds.stp 1 (pc' := 41) (l' := [some (.ref 10), some (.int x1)]) (st' := [.ref 10]) (fun _ => rfl) ?_
    refine t_gr (rfl : mfetch 104 41 = some (41, .getfield 36, 3, 4, 5, 0)) rfl rfl ?_
    refine t_gi (rfl : mfetch 104 44 = some (44, .getfield 74, 3, 0, 3, 0)) rfl rfl ?_
    cases hf; exact mEnds.rt (fun _ => rfl)
  · rw [if_neg hc1] at hf
    by_cases hc2 : x1 = nI 1
    · rw [if_pos hc2] at hf
      refine t_sw hc2 (fun _ _ _ => rfl) (t := 48) ?_
      refine mEnds.stp 1 (pc' := 49) (l' := [some (.ref 10), some (.int x1)]) (st' := [.ref 10]) (fun _ => rfl) ?_
      refine t_gr (rfl : mfetch 104 49 = some (49, .getfield 20, 3, 4, 2, 0)) rfl rfl ?_
      refine mEnds.stp 1 (pc' := 53) (l' := [some (.ref 10), some (.int x1)]) (st' := [.int (nI 0), .ref 20]) (fun _ => rfl) ?_
      obtain ⟨j1, hj1, hf⟩ := ob hf
      refine t_ba (rfl : mfetch 104 53 = some (53, .baload, 1, 0, 0, 0)) rfl rfl rfl hj1 ?_
      by_cases hc3 : s 20 j1 = 0
      · rw [if_pos hc3] at hf
        refine t_jT (t := 61) (rfl : mfetch 104 54 = some (54, .ifCond .eq 7, 3, 0, 0, 0)) rfl (k_eq hc3) ?_
        refine mEnds.stp 1 (pc' := 62) (l' := [some (.ref 10), some (.int x1)]) (st' := [.int (nI 0)]) (fun _ => rfl) ?_
        refine mEnds.cut (l := [some (.ref 10), none]) ⟨rfl, trivial⟩ ?_
        exact ok_C_count_62 hf
      · rw [if_neg hc3] at hf
        refine t_jF (rfl : mfetch 104 54 = some (54, .ifCond .eq 7, 3, 0, 0, 0)) (k_eq' hc3) ?_
        refine mEnds.stp 2 (pc' := 62) (l' := [some (.ref 10), some (.int x1)]) (st' := [.int (nI 1)]) (fun _ => rfl) ?_
        refine mEnds.cut (l := [some (.ref 10), none]) ⟨rfl, trivial⟩ ?_
        exact ok_C_count_62 hf
    · rw [if_neg hc2] at hf
      by_cases hc4 : x1 = nI 2
      · rw [if_pos hc4] at hf
        refine t_sw hc4 (fun _ _ _ => rfl) (t := 78) ?_
        refine mEnds.stp 1 (pc' := 79) (l' := [some (.ref 10), some (.int x1)]) (st' := [.ref 10]) (fun _ => rfl) ?_
        refine t_gr (rfl : mfetch 104 79 = some (79, .getfield 43, 3, 4, 6, 0)) rfl rfl ?_
        refine t_gi (rfl : mfetch 104 82 = some (82, .getfield 56, 3, 3, 1, 0)) rfl rfl ?_
        cases hf; exact mEnds.rt (fun _ => rfl)
      · rw [if_neg hc4] at hf
        by_cases hc5 : x1 = nI 3
        · rw [if_pos hc5] at hf
          refine t_sw hc5 (fun _ _ _ => rfl) (t := 86) ?_
          refine mEnds.stp 1 (pc' := 87) (l' := [some (.ref 10), some (.int x1)]) (st' := [.ref 10]) (fun _ => rfl) ?_
          refine t_gr (rfl : mfetch 104 87 = some (87, .getfield 29, 3, 4, 4, 0)) rfl rfl ?_
          refine mEnds.stp 1 (pc' := 91) (l' := [some (.ref 10), some (.int x1)]) (st' := [.int (nI 0), .ref 22]) (fun _ => rfl) ?_
          refine t_aa (j := 0) (rfl : mfetch 104 91 = some (91, .aaload, 1, 0, 0, 0)) rfl rfl rfl rfl rfl ?_
          obtain ⟨v1, hv1, hf⟩ := ob hf
          refine t_cv (as := []) (st := []) (rfl : mfetch 104 92 = some (92, .invokevirtual 275, 3, 30, 0, 0)) rfl rfl rfl rfl rfl (ok_S_isThere (isS_at (j := 0) (by decide)) hv1) ?_
          by_cases hc6 : v1 = 0
          · rw [if_pos hc6] at hf
            refine t_jT (t := 110) (rfl : mfetch 104 95 = some (95, .ifCond .eq 15, 3, 0, 0, 0)) rfl (k_eq hc6) ?_
            refine mEnds.stp 1 (pc' := 112) (l' := [some (.ref 10), some (.int x1)]) (st' := [.int (-4)]) (fun _ => rfl) ?_
            cases hf; exact mEnds.rt (fun _ => rfl)
          · rw [if_neg hc6] at hf
            refine t_jF (rfl : mfetch 104 95 = some (95, .ifCond .eq 15, 3, 0, 0, 0)) (k_eq' hc6) ?_
            refine mEnds.stp 1 (pc' := 99) (l' := [some (.ref 10), some (.int x1)]) (st' := [.ref 10]) (fun _ => rfl) ?_
            refine t_gr (rfl : mfetch 104 99 = some (99, .getfield 29, 3, 4, 4, 0)) rfl rfl ?_
            refine mEnds.stp 1 (pc' := 103) (l' := [some (.ref 10), some (.int x1)]) (st' := [.int (nI 0), .ref 22]) (fun _ => rfl) ?_
            refine t_aa (j := 0) (rfl : mfetch 104 103 = some (103, .aaload, 1, 0, 0, 0)) rfl rfl rfl rfl rfl ?_
            refine t_gi (rfl : mfetch 104 104 = some (104, .getfield 278, 3, 2, 1, 0)) rfl rfl ?_
            refine mEnds.stp 1 (pc' := 112) (l' := [some (.ref 10), some (.int x1)]) (st' := [.int (s 133 1)]) (fun _ => rfl) ?_
            cases hf; exact mEnds.rt (fun _ => rfl)
        · rw [if_neg hc5] at hf
          by_cases hc7 : x1 = nI 4
          · rw [if_pos hc7] at hf
            refine t_sw hc7 (fun _ _ _ => rfl) (t := 113) ?_
            refine mEnds.stp 1 (pc' := 114) (l' := [some (.ref 10), some (.int x1)]) (st' := [.ref 10]) (fun _ => rfl) ?_
            refine t_gr (rfl : mfetch 104 114 = some (114, .getfield 10, 3, 4, 0, 0)) rfl rfl ?_
            refine t_gr (rfl : mfetch 104 117 = some (117, .getfield 112, 3, 1, 6, 0)) rfl rfl ?_
            refine mEnds.stp 1 (pc' := 121) (l' := [some (.ref 10), some (.int x1)]) (st' := [.ref 10, .ref 13]) (fun _ => rfl) ?_
            refine t_gr (rfl : mfetch 104 121 = some (121, .getfield 10, 3, 4, 0, 0)) rfl rfl ?_
            refine t_gi (rfl : mfetch 104 124 = some (124, .getfield 83, 3, 1, 0, 0)) rfl rfl ?_
            obtain ⟨v2, hv2, hf⟩ := ob hf
            refine t_cs (as := [.ref 13, .int (s 11 0)]) (st := []) (Or.inl rfl) (rfl : mfetch 104 127 = some (127, .invokestatic 279, 3, 106, 0, 0)) rfl rfl rfl (ok_C_sumOf rfl rfl hv2) ?_
            cases hf; exact mEnds.rt (fun _ => rfl)
          · rw [if_neg hc7] at hf
            by_cases hc8 : x1 = nI 5
            · rw [if_pos hc8] at hf
              refine t_sw hc8 (fun _ _ _ => rfl) (t := 131) ?_
              refine mEnds.stp 1 (pc' := 132) (l' := [some (.ref 10), some (.int x1)]) (st' := [.ref 10]) (fun _ => rfl) ?_
              refine t_gr (rfl : mfetch 104 132 = some (132, .getfield 10, 3, 4, 0, 0)) rfl rfl ?_
              refine t_gr (rfl : mfetch 104 135 = some (135, .getfield 144, 3, 1, 10, 0)) rfl rfl ?_
              refine mEnds.stp 1 (pc' := 139) (l' := [some (.ref 10), some (.int x1)]) (st' := [.ref 10, .ref 17]) (fun _ => rfl) ?_
              refine t_gr (rfl : mfetch 104 139 = some (139, .getfield 10, 3, 4, 0, 0)) rfl rfl ?_
              refine t_gi (rfl : mfetch 104 142 = some (142, .getfield 83, 3, 1, 0, 0)) rfl rfl ?_
              refine mEnds.stp 2 (pc' := 147) (l' := [some (.ref 10), some (.int x1)]) (st' := [.int ((s 11 0) - (nI 1)), .ref 17]) (fun _ => rfl) ?_
              obtain ⟨v3, hv3, hf⟩ := ob hf
              refine t_cs (as := [.ref 17, .int ((s 11 0) - (nI 1))]) (st := []) (Or.inl rfl) (rfl : mfetch 104 147 = some (147, .invokestatic 279, 3, 106, 0, 0)) rfl rfl rfl (ok_C_sumOf rfl rfl hv3) ?_
              cases hf; exact mEnds.rt (fun _ => rfl)
            · rw [if_neg hc8] at hf
              refine t_swD (t := 151) (rfl : mfetch 104 1 = some (1, .tableswitch 150 0 5 #[39, 47, 77, 85, 112, 130], 39, 0, 0, 0)) rfl (sw_out (fun k hk => match k, hk with | 0, _ => hc1 | 1, _ => hc2 | 2, _ => hc4 | 3, _ => hc5 | 4, _ => hc7 | 5, _ => hc8 | k + 6, hk => absurd hk (by omega))) ?_
              refine mEnds.stp 1 (pc' := 152) (l' := [some (.ref 10), some (.int x1)]) (st' := [.int (-1)]) (fun _ => rfl) ?_
              cases hf; exact mEnds.rt (fun _ => rfl)
